/-- the chance behind t steps -/
def bhQ (A : Nat → Nat → Int) (n f b t j : Nat) : Rat := mkRat ((bhN A n f t j : Nat) : Int) (b ^ t)
abbrev behCells : List Nat := [0, 1, 2, 3, 4, 5, 6, 7, 8, 9] ++ walkCells
theorem s_chanceBehind {d : Nat} {M : Mem} {n b f to t : Nat} {A : Nat → Nat → Int} (hC : CC M n (b : Int) A) (hO : cOk n (b : Int) A) (hl : lawful n (b : Int) A) (hf : f < n) (hto : to < n) (ht : t ≤ 60) (hz : AZ M) : Post (d + 7) cC_chanceBehind [oC, .inl (f : Int), .inl (to : Int), .inl (t : Int), oB 90] M (fun v M' => Fr behCells M M' ∧ AZ M' ∧ CF M' (bhQ A n f b t to) ∧ v = (bhQ A n f b t to).num.sign) := by
  intro Q hQ
  have h7 := hO.1
  have hb := hO.2.1
  obtain ⟨p1, p2, p3⟩ := p120
  have bpos : ∀ k, 0 < b ^ k := fun k => Nat.pow_pos (by omega)
  have bnd : ∀ k, k ≤ 60 → ((b ^ k : Nat) : Int) ≤ ((100 ^ 60 : Nat) : Int) := fun k hk => Int.ofNat_le.mpr (pow_b (by omega) hk)
  have FW : ∀ {M1 M2 : Mem} {r : Nat}, 10 ≤ r → r + 1 ≤ 39 → Fr [r, r + 1] M1 M2 → Fr walkCells M1 M2 := fun h1 h2 f => f.mono (walk_in h1 h2)
  refine e_C_chanceBehind (b_C_chanceBehind_0 ?_)
  have walk : ∀ (g k : Nat), k + g = t → ∀ M1 o1, Fr walkCells M M1 → AZ M1 → WS M1 n (bhN A n f k) (b ^ k) → L_C_chanceBehind_25 (d + 6) Q M1 o1 (to : Int) (t : Int) (k : Int) := by
    intro g
    induction g with
    | zero =>
      intro k hk M1 o1 f1 z1 hw
      have hk : k = t := by omega
      subst hk
      refine b_C_chanceBehind_25 ⟨⟨by omega, by omega⟩, ⟨by omega, by omega⟩, fun _ => ⟨⟨by omega, by omega⟩, ?_⟩, fun z => absurd (Int.le_refl _) z⟩
      obtain ⟨w1, w2⟩ := wra128 to (by omega)
      rw [Int.toNat_natCast, w1]
      have hle := bh_le hO hl hf hto k
      have hbk := bnd k ht
      refine (s_setBigsQ (d := d) (r1 := 12 + 2 * to) (r2 := 10) (bIr (by omega) (by omega)) (bIr (by omega) (by omega)) (by omega) (by decide) (hw.1 to hto) hw.2 (fun r hr => z1 r (bIr (by omega) (by omega))) (by omega) (by omega) (bpos k)).cal fun v4 M4 hM4 => ?_
      obtain ⟨f4, k4, k5, rfl⟩ := hM4
      refine hQ _ _ ⟨(f1.mono (fun a ha => List.mem_append_right _ ha)).tr (f4.mono (fun a ha => List.mem_append_left _ ha)), z1.fr f4 fun r hr hm => ?_, k4, rfl⟩
      have hc : r = 0 ∨ r = 2 ∨ (r = 4 ∨ r = 6 ∨ r = 8) := by
        obtain ⟨hr1, hr2⟩ := hr
        simp at hm
        omega
      rcases hc with rfl | rfl | h
      · exact k4.rz0
      · exact k4.rz2
      · exact k5 r h
    | succ g ih =>
      intro k hk M1 o1 f1 z1 hw
      refine b_C_chanceBehind_25 ⟨⟨by omega, by omega⟩, ⟨by omega, by omega⟩, fun z => absurd z (by omega), fun _ => ?_⟩
      refine (s_goStep (d := d + 3) (hC.walk f1) hO hl hf (show k < 60 by omega) z1 hw).cal fun v2 M2 hM2 => ?_
      obtain ⟨f2, z2, w2⟩ := hM2
      have F2 := f1.tr f2
      rw [(hC.walk F2).2.1]
      have hbk := bnd (k + 1) (by omega)
      have e1 : ((b ^ k : Nat) : Int) * (b : Int) = ((b ^ (k + 1) : Nat) : Int) := by rw [Nat.pow_succ, Int.natCast_mul]
      refine ⟨⟨by omega, by omega⟩, ?_⟩
      have h10 : IsBig 10 := bIr (by decide) (by decide)
      refine (s_multiply (d := d + 4) h10 w2.2 (by omega) (by omega) (by rw [e1]; omega)).cal fun v3 M3 hM3 => ?_
      obtain ⟨f3, g3⟩ := hM3
      rw [e1] at g3
      rw [show (k : Int) + 1 = ((k + 1 : Nat) : Int) by omega]
      exact ih (k + 1) (by omega) M3 o1 (F2.tr (FW (by decide) (by decide) f3)) (z2.big h10 f3 g3) ⟨fun q hq => f3.big (w2.1 q hq) (by simp; omega) (by simp; omega), g3⟩
  have start : ∀ (g j : Nat), j + g = n → ∀ M1, Fr walkCells M M1 → AZ M1 → (∀ i, i < j → Big M1 (12 + 2 * i) ((bhN A n f 0 i : Nat) : Int)) → L_C_chanceBehind_2 (d + 6) Q M1 (f : Int) (to : Int) (t : Int) (j : Int) := by
    intro g
    induction g with
    | zero =>
      intro j hj M1 f1 z1 hw
      have hj : j = n := by omega
      subst hj
      refine b_C_chanceBehind_2 ?_
      rw [(hC.walk f1).1]
      refine ⟨⟨by omega, by omega⟩, ⟨by omega, by omega⟩, fun _ => ?_, fun z => absurd (Int.le_refl _) z⟩
      have h10 : IsBig 10 := bIr (by decide) (by decide)
      refine (s_setLong (d := d + 4) (j := 1) h10 (z1 10 h10) (by decide) (by decide)).cal fun v2 M2 hM2 => ?_
      obtain ⟨f2, g2⟩ := hM2
      exact walk t 0 (by omega) M2 _ (f1.tr (FW (by decide) (by decide) f2)) (z1.big h10 f2 g2) ⟨fun q hq => f2.big (hw q hq) (by simp; omega) (by simp; omega), g2⟩
    | succ g ih =>
      intro j hj M1 f1 z1 hw
      refine b_C_chanceBehind_2 ?_
      obtain ⟨w1, w2⟩ := wra128 j (by omega)
      rw [(hC.walk f1).1, Int.toNat_natCast, w1]
      have h12 : IsBig (12 + 2 * j) := bIr (by omega) (by omega)
      have st : ∀ (M2 : Mem), Fr [12 + 2 * j, 12 + 2 * j + 1] M1 M2 ∧ Big M2 (12 + 2 * j) ((bhN A n f 0 j : Nat) : Int) → L_C_chanceBehind_2 (d + 6) Q M2 (f : Int) (to : Int) (t : Int) ((j : Int) + 1) := by
        intro M2 ⟨f2, g2⟩
        rw [show (j : Int) + 1 = ((j + 1 : Nat) : Int) by omega]
        refine ih (j + 1) (by omega) M2 (f1.tr (FW (by omega) (by omega) f2)) (z1.big h12 f2 g2) fun i hi => ?_
        by_cases e : i = j
        · rw [e]; exact g2
        · exact f2.big (hw i (by omega)) (by simp; omega) (by simp; omega)
      refine ⟨⟨by omega, by omega⟩, ⟨by omega, by omega⟩, fun z => absurd z (by omega), fun _ => ⟨⟨by omega, by omega⟩, ⟨by omega, by omega⟩, fun z => ?_, fun z => ?_⟩⟩
      · refine (s_setLong (d := d + 4) (j := 0) h12 (z1 _ h12) (by decide) (by decide)).cal fun v2 M2 hM2 => st M2 ⟨hM2.1, ?_⟩
        have e : bhN A n f 0 j = 0 := if_neg (by omega)
        rw [e]; exact hM2.2
      · refine (s_setLong (d := d + 4) (j := 1) h12 (z1 _ h12) (by decide) (by decide)).cal fun v2 M2 hM2 => st M2 ⟨hM2.1, ?_⟩
        have e : bhN A n f 0 j = 1 := if_pos (by omega)
        rw [e]; exact hM2.2
  exact start n 0 (by omega) M Fr.rfl' hz fun i h => absurd h (Nat.not_lt_zero i)
theorem s_Qbehind {d : Nat} {M : Mem} {n : Nat} {b i j t : Int} {A : Nat → Nat → Int} (hC : CC M n b A) (hO : cOk n b A) (hz : AZ M) (hi : R32 i) (hj : R32 j) (ht : R32 t) : PostE (d + 8) cQ_behind [oQ, .inl i, .inl j, .inl t] M (fun r M' => (¬ inSt n i j ∧ r = .inr 4 ∧ M' = M) ∨ (inSt n i j ∧ ¬ (0 ≤ t ∧ t ≤ 60) ∧ r = .inr 2 ∧ M' = M) ∨ (inSt n i j ∧ (0 ≤ t ∧ t ≤ 60) ∧ ¬ lawful n b A ∧ r = .inr 5 ∧ M' = M) ∨ (inSt n i j ∧ (0 ≤ t ∧ t ≤ 60) ∧ lawful n b A ∧ Fr behCells M M' ∧ AZ M' ∧ CF M' (bhQ A n i.toNat b.toNat t.toNat j.toNat) ∧ r = .inl (bhQ A n i.toNat b.toNat t.toNat j.toNat).num.sign)) := by
  intro Q hQ
  have h7 := hO.1
  have hb := hO.2.1
  refine e_Q_behind (b_Q_behind_0 ?_)
  refine (s_needStates (d := d + 6) hC.1 h7.2 hi hj).cal fun r1 M1 hM1 => ?_
  rcases hM1 with ⟨h1, rfl, rfl⟩ | ⟨h1, rfl, rfl⟩
  · exact hQ _ _ (Or.inl ⟨h1, rfl, rfl⟩)
  have no : ¬ (0 ≤ t ∧ t ≤ 60) → Q (.inr 2) M1 := fun h => hQ _ _ (Or.inr (Or.inl ⟨h1, h, rfl, rfl⟩))
  refine ⟨ht, fun _ => no (by omega), fun _ => ⟨fun _ => ?_, fun _ => no (by omega)⟩⟩
  have h2 : 0 ≤ t ∧ t ≤ 60 := by omega
  refine (s_needLawful (d := d + 4) hC hO).cal fun r1 M1 hM1 => ?_
  rcases hM1 with ⟨h3, rfl, rfl⟩ | ⟨h3, rfl, rfl⟩
  · exact hQ _ _ (Or.inr (Or.inr (Or.inl ⟨h1, h2, h3, rfl, rfl⟩)))
  have hq := h1
  unfold inSt at hq
  obtain ⟨I, rfl⟩ : ∃ I : Nat, i = I := ⟨i.toNat, by omega⟩
  obtain ⟨J, rfl⟩ : ∃ J : Nat, j = J := ⟨j.toNat, by omega⟩
  obtain ⟨T, rfl⟩ : ∃ T : Nat, t = T := ⟨t.toNat, by omega⟩
  obtain ⟨B, rfl⟩ : ∃ B : Nat, b = B := ⟨b.toNat, by omega⟩
  simp only [Int.toNat_natCast] at hQ
  refine (s_chanceBehind (d := d) hC hO h3 (show I < n by omega) (show J < n by omega) (show T ≤ 60 by omega) hz).cal fun v5 M5 hM5 => ?_
  obtain ⟨f5, z5, k5, rfl⟩ := hM5
  exact hQ _ _ (Or.inr (Or.inr (Or.inr ⟨h1, h2, h3, f5, z5, k5, rfl⟩)))
