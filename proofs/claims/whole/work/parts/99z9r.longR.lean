/-! Long shares: the reference. -/
theorem shT_D {n s b : Nat} {A : Nat → Nat → Int} (hO : cOk n (b : Int) A) {a c : Nat} (ha : a < cnt s n) (hc : c ≤ cnt s n) : Wh (shT b A s n a c * (((b : Nat) : Int) : Rat)) 1000000 := by
  have hb := hO.2.1
  have h7 := hO.1
  have h1 := (sel_in ha).1
  unfold shT
  by_cases e : c = cnt s n
  · rw [if_pos e]
    by_cases e2 : a = 0
    · rw [if_pos e2]; exact ⟨(b : Int), by grind, by omega, by omega⟩
    · rw [if_neg e2]; exact ⟨0, by show (0 : Rat) * _ = ((0 : Int) : Rat); rw [show ((0 : Int) : Rat) = 0 from rfl]; grind, by omega, by omega⟩
  · rw [if_neg e]
    have h2 := (sel_in (show c < cnt s n by omega)).1
    by_cases e2 : a = 0
    · rw [if_pos e2]; exact ⟨(b : Int), by grind, by omega, by omega⟩
    · rw [if_neg e2]
      have := hO.2.2.1 (sel s n c) (sel s n a) (by omega) (by omega)
      refine ⟨_, mk_mul (by omega), ?_, ?_⟩ <;> split <;> omega
theorem mkOne : mkRat (1 : Int) 1 = 1 := by decide +kernel
theorem s_solvesShares {d : Nat} {M : Mem} {n s b : Nat} {A : Nat → Nat → Int} (hC : RC M n (b : Int) A) (hO : cOk n (b : Int) A) (hla : lawful n (b : Int) A) (hG : isGrp n (cE n A (-1)) s) : Post (d + 7) cM_solvesShares [oM, .inl (s : Int)] M (fun v M' => FM [173] [] solF M M' ∧ v = ((cnt s n : Nat) : Int) ∧ (∀ a, a < cnt s n → M' 173 a = ((sel s n a : Nat) : Int)) ∧ ∀ a, a < cnt s n → FQ M' (56 + a) (shQ b A s n a)) := by
  intro Q hQ
  have h7 := hO.1
  have hb := hO.2.1
  have hcn := cnt_le (s := s) n
  obtain ⟨W, hW, _, _, hne, _, _, _⟩ := grp_shares hO (fun a ha => Int.le_of_eq (hla a ha)) (fun a ha _ => hla a ha) hG
  refine e_M_solvesShares (b_M_solvesShares_0 ?_)
  refine (s_laysUnknowns (d := d + 5) hC.1 h7.2 hG.1).cal fun v1 M1 hM1 => ?_
  obtain ⟨f1, rfl, u1⟩ := hM1
  refine (s_emptiesTable (d := d) (n := cnt s n) (by omega)).cal fun v2 M2 hM2 => ?_
  obtain ⟨f2, t2⟩ := hM2
  have F2 : FM [173] [] solF M M2 := (f1.fm173.mono (fun _ h => h) (by simp) (by simp)).tr (f2.fm.mono (by simp) (by simp) (fun _ h => h))
  have U2 : ∀ a, a < cnt s n → M2 173 a = ((sel s n a : Nat) : Int) := fun a ha => by rw [f2.1 173 (by decide) (by decide) (by decide)]; exact u1 a ha
  have cols : ∀ (h c : Nat), c + h = cnt s n → ∀ M3 o4 o5, FM [173] [] solF M M3 → (∀ a, a < cnt s n → M3 173 a = ((sel s n a : Nat) : Int)) → (∀ a c', a < cnt s n → c' ≤ cnt s n → FQ M3 (8 * a + c') (if c' < c then shT b A s n a c' else 0)) → L_M_solvesShares_9 (d + 6) Q M3 (some (.inl (s : Int))) ((cnt s n : Nat) : Int) (c : Int) o4 o5 := by
    intro h
    induction h with
    | zero =>
      intro c hc M3 o4 o5 f3 u3 t3
      have hc : c = cnt s n := by omega
      subst hc
      refine b_M_solvesShares_9 ⟨⟨by omega, by omega⟩, ⟨by omega, by omega⟩, fun _ => ?_, fun z => absurd (Int.le_refl _) z⟩
      refine (s_place (d := d + 5) (i := 0) (j := cnt s n)).cal fun v4 M4 hM4 => ?_
      obtain ⟨rfl, rfl⟩ := hM4
      refine (s_sets (d := d + 1) (i := 8 * 0 + cnt s n) (x := 1) (y := 1) (by omega) (by decide) (by decide) (by decide)).cal fun v5 M5 hM5 => ?_
      obtain ⟨f5, g5⟩ := hM5
      rw [mkOne] at g5
      refine (s_solves (d := d) (n := cnt s n) (T := shT b A s n) (D := (b : Int)) (by omega) (by omega) (fun a c ha hc => shT_D hO ha hc) hne fun a c' ha hc' => ?_).cal fun v6 M6 hM6 => ?_
      · by_cases e : c' = cnt s n
        · by_cases e2 : a = 0
          · rw [e, e2, show shT b A s n 0 (cnt s n) = 1 by unfold shT; rw [if_pos rfl, if_pos rfl]]
            exact g5
          · have := (t3 a c' ha hc').kept f5 (by omega) (by simp; omega)
            rw [if_neg (by omega)] at this
            rw [show shT b A s n a c' = 0 by unfold shT; rw [if_pos e, if_neg e2]]
            exact this
        · have := (t3 a c' ha hc').kept f5 (by omega) (by simp; omega)
          rw [if_pos (by omega)] at this
          exact this
      · obtain ⟨f6, g6⟩ := hM6
        refine hQ _ _ ⟨(f3.tr ((f5.sol (by omega)).fm.mono (by simp) (by simp) (fun _ h => h))).tr (f6.fm.mono (by simp) (by simp) (fun _ h => h)), rfl, fun a ha => ?_, fun a ha => g6 a ha⟩
        rw [f6.1 173 (by decide) (by decide) (by decide), f5.1 173 (by decide) (by decide) (by decide)]
        exact u3 a ha
    | succ h ih =>
      intro c hc M3 o4 o5 f3 u3 t3
      obtain ⟨c1, c2, c3⟩ := sel_in (show c < cnt s n by omega)
      refine b_M_solvesShares_9 ⟨⟨by omega, by omega⟩, ⟨by omega, by omega⟩, fun z => absurd z (by omega), fun _ => ?_⟩
      refine (s_place (d := d + 5) (i := 0) (j := c)).cal fun v4 M4 hM4 => ?_
      obtain ⟨rfl, rfl⟩ := hM4
      refine (s_sets (d := d + 1) (i := 8 * 0 + c) (x := 1) (y := 1) (by omega) (by decide) (by decide) (by decide)).cal fun v5 M5 hM5 => ?_
      obtain ⟨f5, g5⟩ := hM5
      rw [mkOne] at g5
      have inner : ∀ (e r : Nat), r + e = cnt s n → 1 ≤ r → ∀ M6 o5, FM [173] [] solF M M6 → (∀ a, a < cnt s n → M6 173 a = ((sel s n a : Nat) : Int)) → (∀ a c', a < cnt s n → c' ≤ cnt s n → FQ M6 (8 * a + c') (if c' < c ∨ (c' = c ∧ a < r) then shT b A s n a c' else 0)) → L_M_solvesShares_22 (d + 6) Q M6 (some (.inl (s : Int))) ((cnt s n : Nat) : Int) (c : Int) (r : Int) o5 := by
        intro e
        induction e with
        | zero =>
          intro r hr h1 M6 o5 f6 u6 t6
          refine b_M_solvesShares_22 ⟨⟨by omega, by omega⟩, ⟨by omega, by omega⟩, fun _ => ?_, fun z => absurd (by omega) z⟩
          rw [show (c : Int) + 1 = ((c + 1 : Nat) : Int) by omega]
          refine ih (c + 1) (by omega) M6 _ _ f6 u6 fun a c' ha hc' => ?_
          have := t6 a c' ha hc'
          by_cases e : c' < c + 1
          · rw [if_pos (by omega)] at this
            rw [if_pos e]; exact this
          · rw [if_neg (by omega)] at this
            rw [if_neg e]; exact this
        | succ e ihe =>
          intro r hr h1 M6 o5 f6 u6 t6
          obtain ⟨r1, r2, r3⟩ := sel_in (show r < cnt s n by omega)
          have C6 := hC.fm' f6 (by decide) (by simp) (by simp)
          have hA := hO.2.2.1 (sel s n c) (sel s n r) (by omega) (by omega)
          have nx : ∀ M7 o5, FR [8 * r + c] M6 M7 → FQ M7 (8 * r + c) (mkRat (A (sel s n c) (sel s n r) - (if c = r then (b : Int) else 0)) b) → L_M_solvesShares_22 (d + 6) Q M7 (some (.inl (s : Int))) ((cnt s n : Nat) : Int) (c : Int) ((r : Int) + 1) o5 := fun M7 o5 f7 g7 => by
            rw [show (r : Int) + 1 = ((r + 1 : Nat) : Int) by omega]
            refine ihe (r + 1) (by omega) (by omega) M7 _ (f6.tr ((f7.sol (by omega)).fm.mono (by simp) (by simp) (fun _ h => h))) (fun a ha => by rw [f7.1 173 (by decide) (by decide) (by decide)]; exact u6 a ha) fun a c' ha hc' => ?_
            by_cases e : a = r ∧ c' = c
            · rw [if_pos (by omega), e.1, e.2, show shT b A s n r c = mkRat (A (sel s n c) (sel s n r) - (if c = r then (b : Int) else 0)) b by unfold shT; rw [if_neg (by omega), if_neg (by omega)]]
              exact g7
            · have := (t6 a c' ha hc').kept f7 (by omega) (by simp; omega)
              by_cases e2 : c' < c ∨ (c' = c ∧ a < r)
              · rw [if_pos e2] at this
                rw [if_pos (by omega)]; exact this
              · rw [if_neg e2] at this
                rw [if_neg (by omega)]; exact this
          refine b_M_solvesShares_22 ?_
          rw [Int.toNat_natCast, Int.toNat_natCast, u6 c (by omega), u6 r (by omega), show (7 * ((sel s n c : Nat) : Int) + ((sel s n r : Nat) : Int)).toNat = 7 * sel s n c + sel s n r by omega, C6.2.2 _ _ (by omega) (by omega), C6.2.1]
          refine ⟨⟨by omega, by omega⟩, ⟨by omega, by omega⟩, fun z => absurd z (by omega), fun _ => ⟨⟨by omega, by omega⟩, ⟨by omega, by omega⟩, ⟨by omega, by omega⟩, ⟨by omega, by omega⟩, fun z => ?_, fun z => ?_⟩⟩
          · rw [if_neg (by omega)] at nx
            refine (s_place (d := d + 5) (i := r) (j := c)).cal fun v7 M7 hM7 => ?_
            obtain ⟨rfl, rfl⟩ := hM7
            rw [C6.2.1]
            refine ⟨⟨by omega, by omega⟩, ⟨by omega, by omega⟩, ?_⟩
            refine (s_sets (d := d + 1) (i := 8 * r + c) (x := A (sel s n c) (sel s n r) - 0) (y := b) (by omega) (by omega) (by omega) (by omega)).cal fun v8 M8 hM8 => ?_
            obtain ⟨f8, g8⟩ := hM8
            exact nx M8 _ f8 g8
          · rw [if_pos (by omega)] at nx
            refine (s_place (d := d + 5) (i := r) (j := c)).cal fun v7 M7 hM7 => ?_
            obtain ⟨rfl, rfl⟩ := hM7
            rw [C6.2.1]
            refine ⟨⟨by omega, by omega⟩, ⟨by omega, by omega⟩, ?_⟩
            refine (s_sets (d := d + 1) (i := 8 * r + c) (x := A (sel s n c) (sel s n r) - (b : Int)) (y := b) (by omega) (by omega) (by omega) (by omega)).cal fun v8 M8 hM8 => ?_
            obtain ⟨f8, g8⟩ := hM8
            exact nx M8 _ f8 g8
      refine inner (cnt s n - 1) 1 (by omega) (Nat.le_refl 1) M5 _ (f3.tr ((f5.sol (by omega)).fm.mono (by simp) (by simp) (fun _ h => h))) (fun a ha => by rw [f5.1 173 (by decide) (by decide) (by decide)]; exact u3 a ha) fun a c' ha hc' => ?_
      by_cases e : a = 0 ∧ c' = c
      · rw [if_pos (by omega), e.1, e.2, show shT b A s n 0 c = 1 by unfold shT; rw [if_neg (by omega), if_pos rfl]]
        exact g5
      · have := (t3 a c' ha hc').kept f5 (by omega) (by simp; omega)
        by_cases e2 : c' < c
        · rw [if_pos e2] at this
          rw [if_pos (Or.inl e2)]; exact this
        · rw [if_neg e2] at this
          rw [if_neg (by omega)]; exact this
  exact cols (cnt s n) 0 (by omega) M2 _ _ F2 U2 fun a c' ha hc' => by
    rw [if_neg (Nat.not_lt_zero c')]
    exact t2 a c' ha hc'
theorem s_MlongShare {d : Nat} {M : Mem} {n : Nat} {b i : Int} {A : Nat → Nat → Int} (hC : RC M n b A) (hO : cOk n b A) (hi : R32 i) : Post (d + 8) cM_longShare [oM, .inl i] M (fun v M' => (¬ inSt n i i ∧ M' = upd2 M 175 0 1) ∨ (inSt n i i ∧ ¬ lawful n b A ∧ M' = upd2 M 175 0 2) ∨ (inSt n i i ∧ lawful n b A ∧ FM [173] [0] resF M M' ∧ M' 175 0 = 0 ∧ ∃ q, shrV n b A i.toNat q ∧ FQ M' 80 q ∧ v = q.num.sign)) := by
  intro Q hQ
  have h7 := hO.1
  have hb := hO.2.1
  refine e_M_longShare (b_M_longShare_0 ?_)
  refine (s_isState (d := d + 5) hC.1 h7.2 hi).cal fun v1 M1 hM1 => ?_
  obtain ⟨rfl, ⟨rfl, g1⟩ | ⟨rfl, g1⟩⟩ := hM1
  · have h1 : inSt n i i := ⟨g1, g1⟩
    refine ⟨⟨by decide, by decide⟩, fun _ => ?_, fun z => absurd (by decide) z⟩
    refine (s_MisLawful (d := d + 5) hC hO).cal fun v1 M1 hM1 => ?_
    obtain ⟨rfl, ⟨rfl, h2⟩ | ⟨rfl, h2⟩⟩ := hM1
    · refine ⟨⟨by decide, by decide⟩, fun _ => ?_, fun z => absurd (by decide) z⟩
      obtain ⟨I, rfl⟩ : ∃ I : Nat, i = I := ⟨i.toNat, by omega⟩
      obtain ⟨B, rfl⟩ : ∃ B : Nat, b = B := ⟨b.toNat, by omega⟩
      rw [Int.toNat_natCast] at hQ
      have hI : I < n := by omega
      refine (s_groupOf (d := d + 5) hC hO hI).cal fun v3 M3 hM3 => ?_
      obtain ⟨rfl, hv3⟩ := hM3
      refine (s_sets (d := d + 2) (i := 67) (x := 0) (y := 1) (by decide) (by decide) (by decide) (by decide)).cal fun v4 M4 hM4 => ?_
      obtain ⟨f4, g4⟩ := hM4
      rw [Rat.zero_mkRat] at g4
      have fin : ∀ (q : Rat) M6, FM [173] [] resF M3 M6 → FQ M6 67 q → shrV n (B : Int) A I q → cald (d + 7) cM_comesTo [oM, .inl 67] M6 (fun r M7 => Rt r (fun v7 => Q (.inl v7) M7) (fun x => Q (.inr x) M7)) := fun q M6 f6 g6 hv => (s_comesTo (d := d + 4) (a := 67) (by decide) (by decide) g6).cal fun v5 M5 hM5 => by
        obtain ⟨f5, k5, k6, e5⟩ := hM5
        exact hQ _ _ (Or.inr (Or.inr ⟨h1, h2, (f6.mono (fun _ h => h) (by simp) (fun _ h => h)).tr ((f5.mono (by simp) (fun _ h => h) (by simp)) : FM [173] [0] resF M6 M5), k6, q, hv, k5, e5⟩))
      have F4 : FM [173] [] resF M3 M4 := (f4.resF (by simp)).mono (by simp) (by simp) (fun _ h => h)
      rcases hv3 with ⟨rfl, g⟩ | ⟨g, s, rfl, s2⟩
      · refine ⟨⟨by decide, by decide⟩, fun z => absurd rfl z, fun _ => ?_⟩
        exact b_M_longShare_34 ⟨⟨by decide, by decide⟩, ⟨by decide, by decide⟩, fun _ => fin 0 M4 F4 g4 (Or.inl ⟨g, rfl⟩), fun z => absurd (Int.le_refl _) z⟩
      · have hG := isGrp.of s2 g hI
        have hs0 := (set_ne s2 hI).2
        have hsi := (s2.2 I).mpr ⟨hI, .refl I⟩
        have s1 := s2.1
        have hcI := cnt_k_lt hI hsi
        have hcn := cnt_le (s := s) n
        refine ⟨⟨by omega, by omega⟩, fun _ => ?_, fun z => absurd hs0 z⟩
        have C4 := hC.fm' F4 (by decide) (by simp) (by simp)
        refine (s_solvesShares (d := d) C4 hO h2 hG).cal fun v5 M5 hM5 => ?_
        obtain ⟨f5, rfl, u5, g5⟩ := hM5
        have loop : ∀ (h k : Nat), k + h = cnt s n → ∀ M6, FM [173] [] resF M3 M6 → (∀ a, a < cnt s n → M6 173 a = ((sel s n a : Nat) : Int)) → (∀ a, a < cnt s n → FQ M6 (56 + a) (shQ B A s n a)) → FQ M6 67 (if cnt s I < k then shQ B A s n (cnt s I) else 0) → L_M_longShare_34 (d + 7) Q M6 (I : Int) (some (.inl (s : Int))) ((cnt s n : Nat) : Int) (k : Int) := by
          intro h
          induction h with
          | zero =>
            intro k hk M6 f6 u6 t6 g6
            have hk : k = cnt s n := by omega
            subst hk
            rw [if_pos hcI] at g6
            exact b_M_longShare_34 ⟨⟨by omega, by omega⟩, ⟨by omega, by omega⟩, fun _ => fin _ M6 f6 g6 (Or.inr ⟨g, s, s2, by rw [Int.toNat_natCast]⟩), fun z => absurd (Int.le_refl _) z⟩
          | succ h ih =>
            intro k hk M6 f6 u6 t6 g6
            obtain ⟨k1, k2, k3⟩ := sel_in (show k < cnt s n by omega)
            refine b_M_longShare_34 ?_
            rw [Int.toNat_natCast, u6 k (by omega), show (k : Int) + 1 = ((k + 1 : Nat) : Int) by omega]
            refine ⟨⟨by omega, by omega⟩, ⟨by omega, by omega⟩, fun z => absurd z (by omega), fun _ => ⟨⟨by omega, by omega⟩, ⟨by omega, by omega⟩, ⟨by omega, by omega⟩, fun z => ?_, fun z => ?_⟩⟩
            · refine ih (k + 1) (by omega) M6 f6 u6 t6 ?_
              have hne : cnt s I ≠ k := fun e => z (by
                have := sel_cnt hsi n hI
                rw [e] at this
                omega)
              by_cases e : cnt s I < k
              · rw [if_pos e] at g6
                rw [if_pos (by omega)]; exact g6
              · rw [if_neg e] at g6
                rw [if_neg (by omega)]; exact g6
            · have e : sel s n k = I := by omega
              have e2 : cnt s I = k := by rw [← e, k3]
              rw [show 56 + (k : Int) = ((56 + k : Nat) : Int) by omega]
              refine (s_copies (d := d + 5) (a := 56 + k) (b := 67) (by omega) (by decide) (by omega) (t6 k (by omega))).cal fun v7 M7 hM7 => ?_
              obtain ⟨f7, g7⟩ := hM7
              refine ih (k + 1) (by omega) M7 (f6.tr ((f7.resF (by simp)).mono (by simp) (by simp) (fun _ h => h))) (fun a ha => by rw [f7.1 173 (by decide) (by decide) (by decide)]; exact u6 a ha) (fun a ha => (t6 a ha).kept f7 (by omega) (by simp; omega)) ?_
              rw [e2, if_pos (Nat.lt_succ_self k)]
              exact g7
        refine loop (cnt s n) 0 (by omega) M5 (F4.tr (f5.resF (by simp; omega))) u5 g5 ?_
        rw [if_neg (Nat.not_lt_zero _)]
        exact f5.2.2 67 (by decide) (by simp) 0 g4
    · refine ⟨⟨by decide, by decide⟩, fun z => absurd rfl z, fun _ => ?_⟩
      refine (s_refuse (d := d + 6)).cal fun v2 M2 hM2 => ?_
      obtain ⟨rfl, rfl⟩ := hM2
      exact hQ _ _ (Or.inr (Or.inl ⟨h1, h2, rfl⟩))
  · refine ⟨⟨by decide, by decide⟩, fun z => absurd rfl z, fun _ => ?_⟩
    refine (s_refuse (d := d + 6)).cal fun v2 M2 hM2 => ?_
    obtain ⟨rfl, rfl⟩ := hM2
    exact hQ _ _ (Or.inl ⟨fun h => g1 h.1, rfl⟩)
