/-! The chance behind steps: the reference. -/
theorem mkRat_add_same {a c : Int} {y : Nat} (hy : y ≠ 0) : mkRat a y + mkRat c y = mkRat (a + c) y := by
  rw [Rat.mkRat_add_mkRat _ _ hy hy, ← Int.add_mul, Rat.mkRat_mul_right hy]
theorem RC.fm {M M' : Mem} {n : Nat} {b : Int} {A : Nat → Nat → Int} {l : List Nat} (h : RC M n b A) (hf : FM [] [] l M M') : RC M' n b A := by
  obtain ⟨c1, c2, c3⟩ := h
  exact ⟨by rw [hf.2.1 16 (by simp)]; exact c1, by rw [hf.2.1 17 (by simp)]; exact c2, fun i j hi hj => by rw [hf.1 154 (by decide) (by decide) (by decide) (by decide) (by simp)]; exact c3 i j hi hj⟩
abbrev behF : List Nat := [0, 1, 2, 3, 4, 5, 6, 8, 9, 10, 11, 12, 13, 14, 64, 65]
theorem beh_in {i : Nat} (h : i < 7 ∨ (8 ≤ i ∧ i < 15) ∨ i = 64 ∨ i = 65) : ∀ a, a ∈ [i] → a ∈ behF := by
  intro a ha
  simp at ha ⊢
  omega
theorem FR.beh {M M' : Mem} {i : Nat} (h : FR [i] M M') (hi : i < 7 ∨ (8 ≤ i ∧ i < 15) ∨ i = 64 ∨ i = 65) : FM [] [] behF M M' := (h.mono (beh_in hi)).fm
theorem s_Mwalk {d : Nat} {M : Mem} {n b f to t : Nat} {A : Nat → Nat → Int} {Q : Rs → Mem → Prop} {o1 o5 o6 : Option PV} (hC : RC M n (b : Int) A) (hO : cOk n (b : Int) A) (hl : lawful n (b : Int) A) (hf : f < n) (hto : to < n) (ht : t ≤ 60)
    (hQ : ∀ v M', FM [] [0] (80 :: behF) M M' → M' 175 0 = 0 → FQ M' 80 (bhQ A n f b t to) → v = (bhQ A n f b t to).num.sign → Q (.inl v) M') : L_M_behind_30 (d + 6) Q M (f : Int) (to : Int) (t : Int) 0 o5 o6 := by
  have h7 := hO.1
  have hb := hO.2.1
  obtain ⟨p1, p2, p3⟩ := p120
  have bpos : ∀ k, 0 < b ^ k := fun k => Nat.pow_pos (by omega)
  have bnd : ∀ k, k ≤ 60 → ((b ^ k : Nat) : Int) < 10000 ^ 31 := fun k hk => Int.lt_of_le_of_lt (Int.ofNat_le.mpr (pow_b (by omega) hk)) p3
  have BdQ : ∀ (v k : Nat), v ≤ b ^ k → k ≤ 60 → Bd (mkRat ((v : Nat) : Int) (b ^ k)) 31 := fun v k hv hk => Bd_mk (bpos k) (Int.lt_of_le_of_lt (Int.ofNat_le.mpr hv) (bnd k hk)) (bnd k hk)
  have walk : ∀ (g k : Nat), k + g = t → ∀ M1 o1 o5 o6, FM [] [] behF M M1 → (∀ j, j < n → FQ M1 j (bhQ A n f b k j)) → L_M_behind_48 (d + 6) Q M1 o1 (to : Int) (t : Int) (k : Int) o5 o6 := by
    intro g
    induction g with
    | zero =>
      intro k hk M1 o1 o5 o6 f1 hw
      have hk : k = t := by omega
      subst hk
      refine b_M_behind_48 ⟨⟨by omega, by omega⟩, ⟨by omega, by omega⟩, fun _ => ?_, fun z => absurd (Int.le_refl _) z⟩
      refine (s_comesTo (d := d + 3) (a := to) (by omega) (by omega) (hw to hto)).cal fun v5 M5 hM5 => ?_
      obtain ⟨f5, k5, k6, e5⟩ := hM5
      exact hQ _ _ ((f1.mono (fun _ h => h) (by simp) (fun a h => List.mem_cons_of_mem _ h)).tr (f5.mono (fun _ h => h) (fun _ h => h) (by simp))) k6 k5 e5
    | succ g ih =>
      intro k hk M1 o1 o5 o6 f1 hw
      refine b_M_behind_48 ⟨⟨by omega, by omega⟩, ⟨by omega, by omega⟩, fun z => absurd z (by omega), fun _ => ?_⟩
      have back : ∀ (h j : Nat), j + h = n → ∀ M2 o6, FM [] [] behF M M2 → (∀ i, i < n → FQ M2 (8 + i) (bhQ A n f b (k + 1) i)) → (∀ i, i < j → FQ M2 i (bhQ A n f b (k + 1) i)) → L_M_behind_120 (d + 6) Q M2 o1 (to : Int) (t : Int) (k : Int) (j : Int) o6 := by
        intro h
        induction h with
        | zero =>
          intro j hj M2 o6 f2 hthen hnow
          have hj : j = n := by omega
          subst hj
          refine b_M_behind_120 ?_
          rw [(hC.fm f2).1]
          refine ⟨⟨by omega, by omega⟩, ⟨by omega, by omega⟩, fun _ => ?_, fun z => absurd (Int.le_refl _) z⟩
          rw [show (k : Int) + 1 = ((k + 1 : Nat) : Int) by omega]
          exact ih (k + 1) (by omega) M2 _ _ _ f2 hnow
        | succ h ihh =>
          intro j hj M2 o6 f2 hthen hnow
          refine b_M_behind_120 ?_
          rw [(hC.fm f2).1, show 8 + (j : Int) = ((8 + j : Nat) : Int) by omega]
          refine ⟨⟨by omega, by omega⟩, ⟨by omega, by omega⟩, fun z => absurd z (by omega), fun _ => ?_⟩
          refine (s_copies (d := d + 4) (a := 8 + j) (b := j) (by omega) (by omega) (by omega) (hthen j (by omega))).cal fun v3 M3 hM3 => ?_
          obtain ⟨f3, g3⟩ := hM3
          rw [show (j : Int) + 1 = ((j + 1 : Nat) : Int) by omega]
          refine ihh (j + 1) (by omega) M3 o6 (f2.tr (f3.beh (by omega))) (fun i hi => (hthen i hi).kept f3 (by omega) (by simp; omega)) fun i hi => ?_
          by_cases e : i = j
          · rw [e]; exact g3
          · exact (hnow i (by omega)).kept f3 (by omega) (by simp; omega)
      have go : ∀ (h j : Nat), j + h = n → ∀ M2 o6, FM [] [] behF M M2 → (∀ i, i < n → FQ M2 i (bhQ A n f b k i)) → (∀ i, i < j → FQ M2 (8 + i) (bhQ A n f b (k + 1) i)) → L_M_behind_53 (d + 6) Q M2 o1 (to : Int) (t : Int) (k : Int) (j : Int) o6 := by
        intro h
        induction h with
        | zero =>
          intro j hj M2 o6 f2 hnow hthen
          have hj : j = n := by omega
          subst hj
          refine b_M_behind_53 ?_
          rw [(hC.fm f2).1]
          exact ⟨⟨by omega, by omega⟩, ⟨by omega, by omega⟩, fun _ => back j 0 (by omega) M2 _ f2 hthen (fun i h => absurd h (Nat.not_lt_zero i)), fun z => absurd (Int.le_refl _) z⟩
        | succ h ihh =>
          intro j hj M2 o6 f2 hnow hthen
          refine b_M_behind_53 ?_
          rw [(hC.fm f2).1, show 8 + (j : Int) = ((8 + j : Nat) : Int) by omega]
          refine ⟨⟨by omega, by omega⟩, ⟨by omega, by omega⟩, fun z => absurd z (by omega), fun _ => ?_⟩
          refine (s_sets (d := d + 1) (i := 8 + j) (x := 0) (y := 1) (by omega) (by decide) (by decide) (by decide)).cal fun v3 M3 hM3 => ?_
          obtain ⟨f3, g3⟩ := hM3
          have inner : ∀ (e i : Nat), i + e = n → ∀ M4, FM [] [] behF M M4 → (∀ q, q < n → FQ M4 q (bhQ A n f b k q)) → (∀ q, q < j → FQ M4 (8 + q) (bhQ A n f b (k + 1) q)) → FQ M4 (8 + j) (mkRat ((dotN (bhN A n f k) A j i : Nat) : Int) (b ^ (k + 1))) → L_M_behind_66 (d + 6) Q M4 o1 (to : Int) (t : Int) (k : Int) (j : Int) (i : Int) := by
            intro e
            induction e with
            | zero =>
              intro i hi M4 f4 hnow4 hthen4 hacc
              have hi : i = n := by omega
              subst hi
              refine b_M_behind_66 ?_
              rw [(hC.fm f4).1]
              refine ⟨⟨by omega, by omega⟩, ⟨by omega, by omega⟩, fun _ => ?_, fun z => absurd (Int.le_refl _) z⟩
              rw [show (j : Int) + 1 = ((j + 1 : Nat) : Int) by omega]
              refine ihh (j + 1) (by omega) M4 _ f4 hnow4 fun q hq => ?_
              by_cases e : q = j
              · rw [e]; exact hacc
              · exact hthen4 q (by omega)
            | succ e ihe =>
              intro i hi M4 f4 hnow4 hthen4 hacc
              have c4 := hC.fm f4
              have hA := hO.2.2.1 i j (by omega) (by omega)
              have hq := hnow4 i (by omega)
              have hsg := hq.sg
              have hdot : dotN (bhN A n f k) A j (i + 1) = dotN (bhN A n f k) A j i + bhN A n f k i * (A i j).toNat := rfl
              have same : dotN (bhN A n f k) A j (i + 1) = dotN (bhN A n f k) A j i → L_M_behind_66 (d + 6) Q M4 o1 (to : Int) (t : Int) (k : Int) (j : Int) ((i : Int) + 1) := fun he => by
                rw [show (i : Int) + 1 = ((i + 1 : Nat) : Int) by omega]
                exact ihe (i + 1) (by omega) M4 f4 hnow4 hthen4 (by rw [he]; exact hacc)
              refine b_M_behind_66 ?_
              rw [c4.1, c4.2.1, Int.toNat_natCast, show (7 * (i : Int) + (j : Int)).toNat = 7 * i + j by omega, c4.2.2 i j (by omega) (by omega), show 8 + (j : Int) = ((8 + j : Nat) : Int) by omega]
              refine ⟨⟨by omega, by omega⟩, ⟨by omega, by omega⟩, fun z => absurd z (by omega), fun _ => ⟨⟨by omega, by omega⟩, ⟨by omega, by omega⟩, fun z => same ?_, fun z => ⟨⟨by omega, by omega⟩, ⟨by omega, by omega⟩, fun z2 => same ?_, fun z2 => ⟨⟨by omega, by omega⟩, ?_⟩⟩⟩⟩
              · have h3 := hq.2.2
                rw [z] at h3
                have h4 := Int.sign_eq_zero_iff_zero.mp h3.symm
                have h5 : bhQ A n f b k i = 0 := Rat.num_eq_zero.mp h4
                have h6 := (Rat.mkRat_eq_zero (Nat.ne_of_gt (bpos k))).mp h5
                have h7 : bhN A n f k i = 0 := by omega
                rw [hdot, h7, Nat.zero_mul, Nat.add_zero]
              · rw [hdot, show (A i j).toNat = 0 by omega, Nat.mul_zero, Nat.add_zero]
              · refine (s_sets (d := d + 1) (i := 64) (x := A i j) (y := b) (by decide) (by omega) (by omega) (by omega)).cal fun v5 M5 hM5 => ?_
                obtain ⟨f5, g5⟩ := hM5
                have hle := bh_le hO hl hf (show i < n by omega) k
                have hAN : (A i j).toNat ≤ b := by omega
                have hprod : bhN A n f k i * (A i j).toNat ≤ b ^ (k + 1) := by rw [Nat.pow_succ]; exact Nat.mul_le_mul hle hAN
                have e65 : mkRat (A i j) b * bhQ A n f b k i = mkRat ((bhN A n f k i * (A i j).toNat : Nat) : Int) (b ^ (k + 1)) := by
                  show mkRat (A i j) b * mkRat ((bhN A n f k i : Nat) : Int) (b ^ k) = _
                  rw [Rat.mkRat_mul_mkRat, Int.natCast_mul, Int.toNat_of_nonneg hA.1, Int.mul_comm, Nat.pow_succ, Nat.mul_comm]
                have e8 : mkRat ((dotN (bhN A n f k) A j i : Nat) : Int) (b ^ (k + 1)) + mkRat ((bhN A n f k i * (A i j).toNat : Nat) : Int) (b ^ (k + 1)) = mkRat ((dotN (bhN A n f k) A j (i + 1) : Nat) : Int) (b ^ (k + 1)) := by
                  rw [mkRat_add_same (Nat.ne_of_gt (bpos _)), hdot, Int.natCast_add]
                have hpart := bh_part hO hl hf (show j < n by omega) (show i ≤ n by omega) k
                refine (s_multiplies (d := d + 1) (a := 64) (b := i) (c := 65) (ka := 1) (kb := 31) (by decide) (by omega) (by decide) g5 (hq.kept f5 (by omega) (by simp; omega)) ?_ (BdQ _ k hle (by omega)) (by decide)).cal fun v6 M6 hM6 => ?_
                · have eA : A i j = ((A i j).toNat : Int) := (Int.toNat_of_nonneg hA.1).symm
                  rw [eA]
                  exact Bd_mk (by omega) (by omega) (by omega)
                · obtain ⟨f6, g6⟩ := hM6
                  rw [e65] at g6
                  refine (s_adds (d := d + 1) (a := 8 + j) (b := 65) (c := 8 + j) (ka := 31) (kb := 31) (by omega) (by decide) (by omega) ((hacc.kept f5 (by omega) (by simp; omega)).kept f6 (by omega) (by simp; omega)) g6 (BdQ _ (k + 1) hpart (by omega)) (BdQ _ (k + 1) hprod (by omega)) (by decide)).cal fun v7 M7 hM7 => ?_
                  obtain ⟨f7, g7⟩ := hM7
                  rw [e8] at g7
                  rw [show (i : Int) + 1 = ((i + 1 : Nat) : Int) by omega]
                  exact ihe (i + 1) (by omega) M7 (((f4.tr (f5.beh (by omega))).tr (f6.beh (by omega))).tr (f7.beh (by omega))) (fun q hq => (((hnow4 q hq).kept f5 (by omega) (by simp; omega)).kept f6 (by omega) (by simp; omega)).kept f7 (by omega) (by simp; omega)) (fun q hq => (((hthen4 q hq).kept f5 (by omega) (by simp; omega)).kept f6 (by omega) (by simp; omega)).kept f7 (by omega) (by simp; omega)) g7
          refine inner n 0 (by omega) M3 (f2.tr (f3.beh (by omega))) (fun q hq => (hnow q hq).kept f3 (by omega) (by simp; omega)) (fun q hq => (hthen q hq).kept f3 (by omega) (by simp; omega)) ?_
          rw [Rat.zero_mkRat] at g3
          show FQ M3 (8 + j) (mkRat ((0 : Nat) : Int) (b ^ (k + 1)))
          rw [show ((0 : Nat) : Int) = 0 from rfl, Rat.zero_mkRat]
          exact g3
      exact go n 0 (by omega) M1 _ f1 hw (fun i h => absurd h (Nat.not_lt_zero i))
  have start : ∀ (g j : Nat), j + g = n → ∀ M1, FM [] [] behF M M1 → (∀ i, i < j → FQ M1 i (bhQ A n f b 0 i)) → L_M_behind_30 (d + 6) Q M1 (f : Int) (to : Int) (t : Int) (j : Int) o5 o6 := by
    intro g
    induction g with
    | zero =>
      intro j hj M1 f1 hw
      have hj : j = n := by omega
      subst hj
      refine b_M_behind_30 ?_
      rw [(hC.fm f1).1]
      exact ⟨⟨by omega, by omega⟩, ⟨by omega, by omega⟩, fun _ => walk t 0 (by omega) M1 _ _ _ f1 hw, fun z => absurd (Int.le_refl _) z⟩
    | succ g ih =>
      intro j hj M1 f1 hw
      refine b_M_behind_30 ?_
      rw [(hC.fm f1).1]
      have st : ∀ (M2 : Mem), FR [j] M1 M2 ∧ FQ M2 j (mkRat ((bhN A n f 0 j : Nat) : Int) 1) → L_M_behind_30 (d + 6) Q M2 (f : Int) (to : Int) (t : Int) ((j : Int) + 1) o5 o6 := by
        intro M2 ⟨f2, g2⟩
        rw [show (j : Int) + 1 = ((j + 1 : Nat) : Int) by omega]
        refine ih (j + 1) (by omega) M2 (f1.tr (f2.beh (by omega))) fun i hi => ?_
        by_cases e : i = j
        · rw [e]; exact g2
        · exact (hw i (by omega)).kept f2 (by omega) (by simp; omega)
      refine ⟨⟨by omega, by omega⟩, ⟨by omega, by omega⟩, fun z => absurd z (by omega), fun _ => ⟨⟨by omega, by omega⟩, fun z => ?_, fun z => ?_⟩⟩
      · refine (s_sets (d := d + 1) (i := j) (x := 0) (y := 1) (by omega) (by decide) (by decide) (by decide)).cal fun v2 M2 hM2 => st M2 ⟨hM2.1, ?_⟩
        have e : bhN A n f 0 j = 0 := if_neg (by omega)
        rw [e]; exact hM2.2
      · refine (s_sets (d := d + 1) (i := j) (x := 1) (y := 1) (by omega) (by decide) (by decide) (by decide)).cal fun v2 M2 hM2 => st M2 ⟨hM2.1, ?_⟩
        have e : bhN A n f 0 j = 1 := if_pos (by omega)
        rw [e]; exact hM2.2
  exact start n 0 (by omega) M FM.rfl' fun i h => absurd h (Nat.not_lt_zero i)
theorem s_Mbehind {d : Nat} {M : Mem} {n : Nat} {b i j t : Int} {A : Nat → Nat → Int} (hC : RC M n b A) (hO : cOk n b A) (hi : R32 i) (hj : R32 j) (ht : R32 t) : Post (d + 7) cM_behind [oM, .inl i, .inl j, .inl t] M (fun v M' => (¬ inSt n i j ∧ M' = upd2 M 175 0 1) ∨ (inSt n i j ∧ ¬ (0 ≤ t ∧ t ≤ 60) ∧ M' = upd2 M 175 0 2) ∨ (inSt n i j ∧ (0 ≤ t ∧ t ≤ 60) ∧ ¬ lawful n b A ∧ M' = upd2 M 175 0 3) ∨ (inSt n i j ∧ (0 ≤ t ∧ t ≤ 60) ∧ lawful n b A ∧ FM [] [0] (80 :: behF) M M' ∧ M' 175 0 = 0 ∧ FQ M' 80 (bhQ A n i.toNat b.toNat t.toNat j.toNat) ∧ v = (bhQ A n i.toNat b.toNat t.toNat j.toNat).num.sign)) := by
  intro Q hQ
  have h7 := hO.1
  have hb := hO.2.1
  have no : ¬ inSt n i j → cald (d + 6) cM_refuse [oM, .inl 1] M (fun r M2 => Rt r (fun v2 => Q (.inl v2) M2) (fun x => Q (.inr x) M2)) := fun h => (s_refuse (d := d + 5)).cal fun v2 M2 hM2 => by
    obtain ⟨rfl, rfl⟩ := hM2
    exact hQ _ _ (Or.inl ⟨h, rfl⟩)
  refine e_M_behind (b_M_behind_0 ?_)
  refine (s_isState (d := d + 4) hC.1 h7.2 hi).cal fun v1 M1 hM1 => ?_
  obtain ⟨rfl, ⟨rfl, g1⟩ | ⟨rfl, g1⟩⟩ := hM1
  · refine ⟨⟨by decide, by decide⟩, fun z => absurd z (by decide), fun _ => ?_⟩
    refine (s_isState (d := d + 4) hC.1 h7.2 hj).cal fun v1 M1 hM1 => ?_
    obtain ⟨rfl, ⟨rfl, g3⟩ | ⟨rfl, g3⟩⟩ := hM1
    · have h1 : inSt n i j := ⟨g1, g3⟩
      refine ⟨⟨by decide, by decide⟩, fun _ => ?_, fun z => absurd (by decide) z⟩
      refine (s_in (d := d + 5) ht ⟨by decide, by decide⟩ ⟨by decide, by decide⟩).cal fun v1 M1 hM1 => ?_
      obtain ⟨rfl, ⟨rfl, g5⟩ | ⟨rfl, g5⟩⟩ := hM1
      · refine ⟨⟨by decide, by decide⟩, fun _ => ?_, fun z => absurd (by decide) z⟩
        refine (s_MisLawful (d := d + 4) hC hO).cal fun v1 M1 hM1 => ?_
        obtain ⟨rfl, ⟨rfl, g⟩ | ⟨rfl, g⟩⟩ := hM1
        · refine ⟨⟨by decide, by decide⟩, fun _ => ?_, fun z => absurd (by decide) z⟩
          obtain ⟨I, rfl⟩ : ∃ I : Nat, i = I := ⟨i.toNat, by omega⟩
          obtain ⟨J, rfl⟩ : ∃ J : Nat, j = J := ⟨j.toNat, by omega⟩
          obtain ⟨T, rfl⟩ : ∃ T : Nat, t = T := ⟨t.toNat, by omega⟩
          obtain ⟨B, rfl⟩ : ∃ B : Nat, b = B := ⟨b.toNat, by omega⟩
          simp only [Int.toNat_natCast] at hQ
          exact s_Mwalk (o1 := none) hC hO g (show I < n by omega) (show J < n by omega) (show T ≤ 60 by omega) fun v M' f1 k0 k1 k2 => hQ v M' (Or.inr (Or.inr (Or.inr ⟨h1, g5, g, f1, k0, k1, k2⟩)))
        · refine ⟨⟨by decide, by decide⟩, fun z => absurd rfl z, fun _ => ?_⟩
          refine (s_refuse (d := d + 5)).cal fun v2 M2 hM2 => ?_
          obtain ⟨rfl, rfl⟩ := hM2
          exact hQ _ _ (Or.inr (Or.inr (Or.inl ⟨h1, g5, g, rfl⟩)))
      · refine ⟨⟨by decide, by decide⟩, fun z => absurd rfl z, fun _ => ?_⟩
        refine (s_refuse (d := d + 5)).cal fun v2 M2 hM2 => ?_
        obtain ⟨rfl, rfl⟩ := hM2
        exact hQ _ _ (Or.inr (Or.inl ⟨h1, g5, rfl⟩))
    · exact ⟨⟨by decide, by decide⟩, fun z => absurd rfl z, fun _ => no fun h => g3 h.2⟩
  · exact ⟨⟨by decide, by decide⟩, fun _ => no fun h => g1 h.1, fun z => absurd rfl z⟩
