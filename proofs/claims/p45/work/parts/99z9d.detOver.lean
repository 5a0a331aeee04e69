/-! The determinant over a set of states. -/
theorem cnt_up {s k : Nat} (h : s.testBit k = true) : cnt s (k + 1) = cnt s k + 1 := by
  show cnt s k + (if s.testBit k then 1 else 0) = cnt s k + 1
  rw [if_pos h]
theorem cnt_no {s k : Nat} (h : s.testBit k = false) : cnt s (k + 1) = cnt s k := by
  show cnt s k + (if s.testBit k then 1 else 0) = cnt s k
  rw [h]; rfl
theorem cnt_k {s : Nat} {i j : Nat} (h : i ≤ j) : cnt s i ≤ cnt s j := by
  induction j with
  | zero => rw [show i = 0 by omega]; exact Nat.le_refl _
  | succ j ih =>
    by_cases e : i = j + 1
    · rw [e]; exact Nat.le_refl _
    · exact Nat.le_trans (ih (by omega)) (Nat.le_add_right _ _)
theorem cnt_k_lt {s i j : Nat} (h : i < j) (hi : s.testBit i = true) : cnt s i < cnt s j := by
  have a := cnt_up hi
  have b := cnt_k (s := s) (show i + 1 ≤ j by omega)
  omega
theorem wed_cells {m : Nat} {R R' : Nat → Nat → Rat} : ∀ k, (∀ a c, a < k → c < m → R a c = R' a c) → wed m R k = wed m R' k := by
  intro k
  induction k with
  | zero => intro _; rfl
  | succ k ih =>
    intro h
    show Wd m (R k) (wed m R k) = Wd m (R' k) (wed m R' k)
    rw [ih fun a c ha hc => h a c (by omega) hc]
    funext S
    refine sumQ_congr m fun c hc => ?_
    rw [h k c (by omega) hc]
/-- every place below the count is a member's -/
theorem cnt_onto {s : Nat} : ∀ n a, a < cnt s n → ∃ i, i < n ∧ s.testBit i = true ∧ cnt s i = a := by
  intro n
  induction n with
  | zero => intro a h; exact absurd h (Nat.not_lt_zero _)
  | succ n ih =>
    intro a h
    by_cases e : a < cnt s n
    · obtain ⟨i, h1, h2, h3⟩ := ih a e
      exact ⟨i, by omega, h2, h3⟩
    · cases hb : s.testBit n
      · rw [cnt_no hb] at h; exact absurd h e
      · rw [cnt_up hb] at h
        exact ⟨n, by omega, hb, by omega⟩
theorem isSq72 : IsSq 72 := Or.inl rfl
abbrev sqCells : List Nat := [74, 75, 76, 77, 78, 79, 80]
theorem s_Sput {d : Nat} {M : Mem} {i j : Nat} {v : Int} (hi : i < 6) (hj : j < 6) : Post (d + 1) cS_put [.inr (.inr (.inl 72)), .inl (i : Int), .inl (j : Int), .inr (.inl v)] M (fun _ M' => M' = upd2 M (75 + i) j v) := by
  intro Q hQ
  obtain ⟨w1, w2, w3⟩ := wraSq isSq72 i hi
  refine e_S_put isSq72 (b_S_put_0 isSq72 ?_)
  rw [Int.toNat_natCast, Int.toNat_natCast, w1, w2, w3]
  exact ⟨⟨by omega, by omega⟩, fun z => absurd z (by omega), fun _ => ⟨fun z => absurd z (by omega), fun _ => ⟨⟨by omega, by omega⟩, fun z => absurd z (by omega), fun _ => ⟨fun z => absurd z (by omega), fun _ => ⟨⟨by omega, by omega⟩, rfl, ⟨by omega, by omega⟩, hQ _ _ rfl⟩⟩⟩⟩⟩
/-- a cell of the equations: base less parts; in the column p the right side -/
def dv (b : Int) (A : Nat → Nat → Int) (p q : Int) (i j : Nat) : Int := if (j : Int) = p then (if q = -1 then b else A i q.toNat) else (if i = j then b else 0) - A i j
theorem sq_in {i : Nat} (h : i < 6) : 75 + i ∈ sqCells := by
  simp; omega
theorem CC.sq {M M' : Mem} {n : Nat} {b : Int} {A : Nat → Nat → Int} (h : CC M n b A) (hf : Fr sqCells M M') : CC M' n b A :=
  h.kept hf (by decide) fun i hi => by simp; omega
theorem s_detOver {d : Nat} {M : Mem} {n s : Nat} {b p q : Int} {A : Nat → Nat → Int} (hC : CC M n b A) (hO : cOk n b A) (hs : s < 128) (h6 : cnt s n ≤ 6) (hp : R32 p) (hq : q = -1 ∨ (0 ≤ q ∧ q < 7)) : Post (d + 3) cC_determinantOver [oC, .inl (s : Int), .inl p, .inl q] M (fun v M' => Fr sqCells M M' ∧ ∃ R : Nat → Nat → Rat, (∀ i j, i < n → j < n → s.testBit i = true → s.testBit j = true → R (cnt s i) (cnt s j) = ((dv b A p q i j : Int) : Rat)) ∧ ((v : Int) : Rat) = wed (cnt s n) R (cnt s n) (full (cnt s n))) := by
  intro Q hQ
  have h7 := hO.1
  have hb := hO.2.1
  refine e_C_determinantOver (b_C_determinantOver_0 ?_)
  have outer : ∀ (g i : Nat), i + g = n → ∀ M1 o6 o7, Fr sqCells M M1 → (∀ i' j, i' < i → j < n → s.testBit i' = true → s.testBit j = true → M1 (75 + cnt s i') (cnt s j) = dv b A p q i' j) → L_C_determinantOver_4 (d + 2) Q M1 (s : Int) p q ((cnt s i : Nat) : Int) (i : Int) o6 o7 := by
    intro g
    induction g with
    | zero =>
      intro i hi M1 o6 o7 f1 hall
      have hi : i = n := by omega
      subst hi
      refine b_C_determinantOver_4 ?_
      rw [(hC.sq f1).1]
      refine ⟨⟨by omega, by omega⟩, ⟨by omega, by omega⟩, fun _ => ?_, fun z => absurd (Int.le_refl _) z⟩
      refine (s_det (d := d) isSq72 h6).cal fun v2 M2 hM2 => ?_
      obtain ⟨f2, g2⟩ := hM2
      refine hQ _ _ ⟨f1.tr (f2.mono (by simp)), _, fun i' j' hi' hj' h1 h2 => ?_, g2⟩
      show ((M1 (72 + 3 + cnt s i') (cnt s j') : Int) : Rat) = _
      rw [show 72 + 3 + cnt s i' = 75 + cnt s i' by omega, hall i' j' hi' hj' h1 h2]
    | succ g ih =>
      intro i hi M1 o6 o7 f1 hall
      refine b_C_determinantOver_4 ?_
      rw [(hC.sq f1).1]
      refine ⟨⟨by omega, by omega⟩, ⟨by omega, by omega⟩, fun z => absurd z (by omega), fun _ => ?_⟩
      refine (s_isIn (d := d + 1) (s := s) (j := i) hs (by omega)).cal fun v2 M2 hM2 => ?_
      obtain ⟨rfl, ⟨rfl, g3⟩ | ⟨rfl, g3⟩⟩ := hM2
      · refine ⟨⟨by decide, by decide⟩, fun z => absurd z (by decide), fun _ => ?_⟩
        have hri : cnt s i < 6 := by
          have := cnt_k_lt (show i < n by omega) g3
          omega
        have inner : ∀ (h j : Nat), j + h = n → ∀ M3, Fr sqCells M M3 → (∀ i' j, i' < i → j < n → s.testBit i' = true → s.testBit j = true → M3 (75 + cnt s i') (cnt s j) = dv b A p q i' j) → (∀ j', j' < j → s.testBit j' = true → M3 (75 + cnt s i) (cnt s j') = dv b A p q i j') → L_C_determinantOver_16 (d + 2) Q M3 (s : Int) p q ((cnt s i : Nat) : Int) (i : Int) ((cnt s j : Nat) : Int) (j : Int) := by
          intro h
          induction h with
          | zero =>
            intro j hj M3 f3 hall3 hrow
            have hj : j = n := by omega
            subst hj
            refine b_C_determinantOver_16 ?_
            rw [(hC.sq f3).1]
            refine ⟨⟨by omega, by omega⟩, ⟨by omega, by omega⟩, fun _ => ?_, fun z => absurd (Int.le_refl _) z⟩
            rw [show (i : Int) + 1 = ((i + 1 : Nat) : Int) by omega, show ((cnt s i : Nat) : Int) + 1 = ((cnt s (i + 1) : Nat) : Int) by rw [cnt_up g3]; omega]
            refine ih (i + 1) (by omega) M3 _ _ f3 fun i' j' hi' hj' h1 h2 => ?_
            by_cases e : i' = i
            · rw [e]; exact hrow j' hj' h2
            · exact hall3 i' j' (by omega) hj' h1 h2
          | succ h ihh =>
            intro j hj M3 f3 hall3 hrow
            have c3 := hC.sq f3
            refine b_C_determinantOver_16 ?_
            rw [c3.1]
            refine ⟨⟨by omega, by omega⟩, ⟨by omega, by omega⟩, fun z => absurd z (by omega), fun _ => ?_⟩
            refine (s_isIn (d := d + 1) (s := s) (j := j) hs (by omega)).cal fun v4 M4 hM4 => ?_
            obtain ⟨rfl, ⟨rfl, g4⟩ | ⟨rfl, g4⟩⟩ := hM4
            · have hrj : cnt s j < 6 := by
                have := cnt_k_lt (show j < n by omega) g4
                omega
              obtain ⟨r1, r2, r3⟩ := wra125 i (by omega)
              have st : ∀ v, v = dv b A p q i j → cald (d + 2) cS_put [.inr (.inr (.inl 72)), .inl ((cnt s i : Nat) : Int), .inl ((cnt s j : Nat) : Int), .inr (.inl v)] M4 (fun r M2 => Rt r (fun _v2 => L_C_determinantOver_16 (d + 2) Q M2 (s : Int) p q ((cnt s i : Nat) : Int) (i : Int) (((cnt s j : Nat) : Int) + 1) ((j : Int) + 1)) (fun x => Q (.inr x) M2)) := by
                intro v hv
                refine (s_Sput (d := d + 1) hri hrj).cal fun v5 M5 hM5 => ?_
                subst hM5
                rw [show (j : Int) + 1 = ((j + 1 : Nat) : Int) by omega, show ((cnt s j : Nat) : Int) + 1 = ((cnt s (j + 1) : Nat) : Int) by rw [cnt_up g4]; omega]
                refine ihh (j + 1) (by omega) _ (f3.u2 (sq_in hri)) (fun i' j' hi' hj' h1 h2 => ?_) fun j' hj' h2 => ?_
                · have := cnt_k_lt hi' h1
                  rw [u2_off (by omega)]; exact hall3 i' j' hi' hj' h1 h2
                · by_cases e : j' = j
                  · rw [e, u2_same]; exact hv
                  · have := cnt_k_lt (show j' < j by omega) h2
                    rw [u2_ne (by omega)]; exact hrow j' (by omega) h2
              have hA := hO.2.2.1 i j (by omega) (by omega)
              rw [Int.toNat_natCast, Int.toNat_natCast, r1, r2, r3, c3.2.1, c3.2.2 i j (by omega) (by omega)]
              refine ⟨⟨by decide, by decide⟩, fun z => absurd z (by decide), fun _ => ⟨hp, fun z => ⟨⟨by omega, by omega⟩, fun z2 => ?_, fun z2 => ?_⟩, fun z => ⟨⟨by omega, by omega⟩, fun z2 => ?_, fun z2 => ⟨⟨by omega, by omega⟩, ?_⟩⟩⟩⟩
              · refine ⟨⟨by omega, by omega⟩, rfl, ⟨by omega, by omega⟩, ⟨by omega, by omega⟩, st _ ?_⟩
                unfold dv
                rw [if_neg z, if_neg (show ¬ i = j by omega)]
              · refine ⟨⟨by omega, by omega⟩, rfl, ⟨by omega, by omega⟩, ⟨by omega, by omega⟩, st _ ?_⟩
                unfold dv
                rw [if_neg z, if_pos (show i = j by omega)]
              · obtain ⟨K, rfl⟩ : ∃ K : Nat, q = K := ⟨q.toNat, by omega⟩
                have hA2 := hO.2.2.1 i K (by omega) (by omega)
                rw [Int.toNat_natCast, c3.2.2 i K (by omega) (by omega)]
                refine ⟨⟨by omega, by omega⟩, rfl, ⟨by omega, by omega⟩, ⟨by omega, by omega⟩, st _ ?_⟩
                unfold dv
                rw [if_pos (Classical.not_not.mp z), if_neg z2, Int.toNat_natCast]
              · refine st _ ?_
                unfold dv
                rw [if_pos (Classical.not_not.mp z), if_pos (Classical.not_not.mp z2)]
            · refine ⟨⟨by decide, by decide⟩, fun _ => ?_, fun z => absurd rfl z⟩
              rw [show (j : Int) + 1 = ((j + 1 : Nat) : Int) by omega, ← cnt_no g4]
              refine ihh (j + 1) (by omega) _ f3 hall3 fun j' hj' h2 => ?_
              by_cases e : j' = j
              · rw [e, g4] at h2; cases h2
              · exact hrow j' (by omega) h2
        exact inner n 0 (by omega) M2 f1 hall fun j' h => absurd h (Nat.not_lt_zero j')
      · refine ⟨⟨by decide, by decide⟩, fun _ => ?_, fun z => absurd rfl z⟩
        rw [show (i : Int) + 1 = ((i + 1 : Nat) : Int) by omega, ← cnt_no g3]
        refine ih (i + 1) (by omega) M2 _ _ f1 fun i' j' hi' hj' h1 h2 => ?_
        by_cases e : i' = i
        · rw [e, g3] at h1; cases h1
        · exact hall i' j' (by omega) hj' h1 h2
  exact outer n 0 (by omega) M _ _ Fr.rfl' fun i' j h => absurd h (Nat.not_lt_zero i')
