def sumT (f : Nat → Int) : Nat → Int
  | 0 => 0
  | k + 1 => sumT f k + f k
theorem s_sumOf {d : Nat} {M : Mem} {r l : Nat} (hk : wAk r = 1) (hl : wAl r = l) (h7 : l ≤ 100) : Post (d + 1) cQ_sumOf [.inr (.inr (.inl r))] M (fun v M' => M' = M ∧ v = sumT (M r) l) := by
  intro Q hQ
  refine e_Q_sumOf (b_Q_sumOf_0 ⟨by omega, ?_⟩)
  rw [hl]
  have loop : ∀ (f k : Nat), k + f = l → ∀ o0 o5, L_Q_sumOf_9 d Q M o0 (sumT (M r) k) r (l : Int) (k : Int) o5 := by
    intro f
    induction f with
    | zero =>
      intro k hk' o0 o5
      have hk' : k = l := by omega
      subst hk'
      exact b_Q_sumOf_9 ⟨⟨by omega, by omega⟩, ⟨by omega, by omega⟩, fun _ => hQ _ _ ⟨rfl, rfl⟩, fun z => absurd (Int.le_refl _) z⟩
    | succ f ih =>
      intro k hk' o0 o5
      refine b_Q_sumOf_9 ⟨⟨by omega, by omega⟩, ⟨by omega, by omega⟩, fun z => absurd z (by omega), fun _ => ⟨hk, ⟨by omega, by rw [hl]; omega⟩, ?_⟩⟩
      rw [Int.toNat_natCast]
      have := ih (k + 1) (by omega) (clr o0) (some (.inl (M r k)))
      rw [show ((k + 1 : Nat) : Int) = (k : Int) + 1 by omega] at this
      exact this
  exact loop l 0 (by omega) _ _
theorem sumT_row {f : Nat → Int} {A : Nat → Nat → Int} {i : Nat} : ∀ k, (∀ j, j < k → f j = A i j) → sumT f k = rowS A i k := by
  intro k
  induction k with
  | zero => intro _; rfl
  | succ k ih => intro h; show sumT f k + f k = rowS A i k + A i k; rw [ih fun j hj => h j (by omega), h k (by omega)]
theorem s_rowOf {d : Nat} {M : Mem} {n i : Nat} {b : Int} {A : Nat → Nat → Int} (hC : CC M n b A) (hO : cOk n b A) (hi : i < n) : Post (d + 1) cQ_sumOf [.inr (.inr (.inl (wRa 125 i)))] M (fun v M' => M' = M ∧ v = rowS A i n) := by
  intro Q hQ
  have h7 := hO.1
  obtain ⟨r1, r2, r3⟩ := wra125 i (by omega)
  rw [r1]
  refine s_sumOf (d := d) r2 r3 (by decide) Q fun v M' ⟨h1, h2⟩ => hQ v M' ⟨h1, ?_⟩
  rw [h2, sumT_row (A := A) (i := i) 7 fun j hj => hC.2.2 i j (by omega) hj]
  have := rowS_n hO hi (7 - n) (by omega)
  rw [show n + (7 - n) = 7 by omega] at this
  exact this
def inSt (n : Nat) (i j : Int) : Prop := (0 ≤ i ∧ i < n) ∧ 0 ≤ j ∧ j < n
theorem s_needStates {d : Nat} {M : Mem} {n : Nat} {i j : Int} (hn : M 130 0 = n) (h7 : n ≤ 7) (hi : R32 i) (hj : R32 j) : PostE (d + 1) cQ_needStates [oQ, .inl i, .inl j] M (fun r M' => (¬ inSt n i j ∧ r = .inr 4 ∧ M' = M) ∨ (inSt n i j ∧ r = .inl 0 ∧ M' = M)) := by
  intro Q hQ
  have no : ¬ inSt n i j → Q (.inr 4) M := fun h => hQ _ _ (Or.inl ⟨h, rfl, rfl⟩)
  unfold inSt at no hQ
  refine e_Q_needStates (b_Q_needStates_0 ?_)
  rw [hn]
  exact ⟨hi, fun _ => no (by omega), fun _ => ⟨⟨by omega, by omega⟩, fun _ => no (by omega), fun _ => ⟨hj, fun _ => no (by omega), fun _ => ⟨fun _ => hQ _ _ (Or.inr ⟨by omega, rfl, rfl⟩), fun _ => no (by omega)⟩⟩⟩⟩
theorem s_Qchance {d : Nat} {M : Mem} {n : Nat} {b i j v : Int} {A : Nat → Nat → Int} (hC : CC M n b A) (hO : cOk n b A) (hi : R32 i) (hj : R32 j) (hv : R32 v) : PostE (d + 2) cQ_chance [oQ, .inl i, .inl j, .inl v] M (fun r M' => (¬ inSt n i j ∧ r = .inr 4 ∧ M' = M) ∨ (inSt n i j ∧ ¬ (0 ≤ v ∧ v ≤ b) ∧ r = .inr 2 ∧ M' = M) ∨ (inSt n i j ∧ (0 ≤ v ∧ v ≤ b) ∧ r = .inl (rowS (upA A i.toNat j.toNat v) i.toNat n) ∧ Fr prow M M' ∧ CC M' n b (upA A i.toNat j.toNat v))) := by
  intro Q hQ
  obtain ⟨c1, c2, c3⟩ := hC
  have h7 := hO.1
  have hb := hO.2.1
  refine e_Q_chance (b_Q_chance_0 ?_)
  refine (s_needStates (d := d) c1 (by omega) hi hj).cal fun r1 M1 hM1 => ?_
  rcases hM1 with ⟨h1, rfl, rfl⟩ | ⟨h1, rfl, rfl⟩
  · exact hQ _ _ (Or.inl ⟨h1, rfl, rfl⟩)
  have no : ¬ (0 ≤ v ∧ v ≤ b) → Q (.inr 2) M1 := fun h => hQ _ _ (Or.inr (Or.inl ⟨h1, h, rfl, rfl⟩))
  have hq := h1
  unfold inSt at hq
  obtain ⟨I, rfl⟩ : ∃ I : Nat, i = I := ⟨i.toNat, by omega⟩
  obtain ⟨J, rfl⟩ : ∃ J : Nat, j = J := ⟨j.toNat, by omega⟩
  simp only [Int.toNat_natCast] at hQ
  refine ⟨hv, fun _ => no (by omega), fun _ => ?_⟩
  rw [c2, Int.toNat_natCast, Int.toNat_natCast]
  obtain ⟨r1, r2, r3⟩ := wra125 I (by omega)
  refine ⟨⟨by omega, by omega⟩, fun z => ⟨⟨by omega, by omega⟩, by rw [r1]; exact r2, ⟨by omega, by rw [r1, r3]; omega⟩, ?_⟩, fun _ => no (by omega)⟩
  have hO2 := cOk_up hO (p := I) (q := J) (v := v) (by omega) (by omega) (by omega)
  have hC2 : CC (upd2 M1 (wRa 125 I) J v) n b (upA A I J v) := by
    rw [r1]
    refine ⟨by rw [u2_off (by omega)]; exact c1, by rw [u2_off (by omega)]; exact c2, fun i' j' h1 h2 => ?_⟩
    unfold upA
    by_cases e : i' = I
    · rw [e]
      by_cases e2 : j' = J
      · rw [e2, if_pos ⟨rfl, rfl⟩, u2_same]
      · rw [if_neg (fun h => e2 h.2), u2_ne e2]; exact c3 I j' (by omega) h2
    · rw [if_neg (fun h => e h.1), u2_off (by omega)]; exact c3 i' j' h1 h2
  refine (s_rowOf (d := d) hC2 hO2 (by omega)).cal fun v5 M5 hM5 => ?_
  obtain ⟨rfl, rfl⟩ := hM5
  refine hQ _ _ (Or.inr (Or.inr ⟨h1, by omega, rfl, ?_, hC2⟩))
  rw [r1]
  exact Fr.rfl'.u2 (prow_in (by omega))
def lawful (n : Nat) (b : Int) (A : Nat → Nat → Int) : Prop := ∀ i, i < n → rowS A i n = b
theorem s_CisLawful {d : Nat} {M : Mem} {n : Nat} {b : Int} {A : Nat → Nat → Int} (hC : CC M n b A) (hO : cOk n b A) : Post (d + 2) cC_isLawful [oC] M (fun v M' => M' = M ∧ ((v = 1 ∧ lawful n b A) ∨ (v = 0 ∧ ¬ lawful n b A))) := by
  intro Q hQ
  have h7 := hO.1
  have hb := hO.2.1
  refine e_C_isLawful (b_C_isLawful_0 ?_)
  have loop : ∀ (f k : Nat), k + f = n → (∀ i, i < k → rowS A i n = b) → L_C_isLawful_2 (d + 1) Q M (k : Int) := by
    intro f
    induction f with
    | zero =>
      intro k hk hall
      have hk : k = n := by omega
      subst hk
      refine b_C_isLawful_2 ?_
      rw [hC.1]
      exact ⟨⟨by omega, by omega⟩, ⟨by omega, by omega⟩, fun _ => hQ _ _ ⟨rfl, Or.inl ⟨rfl, hall⟩⟩, fun z => absurd (Int.le_refl _) z⟩
    | succ f ih =>
      intro k hk hall
      refine b_C_isLawful_2 ?_
      rw [hC.1, Int.toNat_natCast]
      refine ⟨⟨by omega, by omega⟩, ⟨by omega, by omega⟩, fun z => absurd z (by omega), fun _ => ⟨⟨by omega, by omega⟩, ?_⟩⟩
      refine (s_rowOf (d := d) hC hO (i := k) (by omega)).cal fun v1 M1 hM1 => ?_
      obtain ⟨rfl, rfl⟩ := hM1
      have := rowS_r hO (i := k) (by omega) n (by omega)
      rw [hC.2.1]
      refine ⟨⟨by omega, by omega⟩, ⟨by omega, by omega⟩, fun z => ?_, fun z => hQ _ _ ⟨rfl, Or.inr ⟨rfl, fun h => z (h k (by omega))⟩⟩⟩
      rw [show (k : Int) + 1 = ((k + 1 : Nat) : Int) by omega]
      refine ih (k + 1) (by omega) fun i hi => ?_
      by_cases e : i = k
      · rw [e]; exact z
      · exact hall i (by omega)
  exact loop n 0 (by omega) fun i h => absurd h (Nat.not_lt_zero i)
theorem s_needLawful {d : Nat} {M : Mem} {n : Nat} {b : Int} {A : Nat → Nat → Int} (hC : CC M n b A) (hO : cOk n b A) : PostE (d + 3) cQ_needLawful [oQ] M (fun r M' => (¬ lawful n b A ∧ r = .inr 5 ∧ M' = M) ∨ (lawful n b A ∧ r = .inl 0 ∧ M' = M)) := by
  intro Q hQ
  refine e_Q_needLawful (b_Q_needLawful_0 ?_)
  refine (s_CisLawful (d := d) hC hO).cal fun v1 M1 hM1 => ?_
  obtain ⟨rfl, ⟨rfl, g1⟩ | ⟨rfl, g1⟩⟩ := hM1
  · exact ⟨⟨by decide, by decide⟩, fun _ => hQ _ _ (Or.inr ⟨g1, rfl, rfl⟩), fun z => absurd (by decide) z⟩
  · exact ⟨⟨by decide, by decide⟩, fun z => absurd rfl z, fun _ => hQ _ _ (Or.inl ⟨g1, rfl, rfl⟩)⟩