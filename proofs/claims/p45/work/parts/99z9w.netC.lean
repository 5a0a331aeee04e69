/-! Nets: the class solves. -/
theorem isSq81 : IsSq 81 := Or.inr rfl
abbrev nsqC : List Nat := [83, 84, 85, 86, 87, 88, 89]
theorem nsq_in {i : Nat} (h : i < 6) : 84 + i ∈ nsqC := by
  simp; omega
theorem NC.sq {M M' : Mem} {n : Nat} {C S : Nat → Int} {A : Nat → Nat → Int} (h : NC M n C S A) (hf : Fr nsqC M M') : NC M' n C S A := h.kept hf (by decide) (by decide) (by decide) fun i hi => by simp; omega
theorem s_Nput {d : Nat} {M : Mem} {i j : Nat} {v : Int} (hi : i < 6) (hj : j < 6) : Post (d + 1) cS_put [.inr (.inr (.inl 81)), .inl (i : Int), .inl (j : Int), .inr (.inl v)] M (fun _ M' => M' = upd2 M (84 + i) j v) := by
  intro Q hQ
  obtain ⟨w1, w2, w3⟩ := wraSq isSq81 i hi
  refine e_S_put isSq81 (b_S_put_0 isSq81 ?_)
  rw [Int.toNat_natCast, Int.toNat_natCast, w1, w2, w3]
  exact ⟨⟨by omega, by omega⟩, fun z => absurd z (by omega), fun _ => ⟨fun z => absurd z (by omega), fun _ => ⟨⟨by omega, by omega⟩, fun z => absurd z (by omega), fun _ => ⟨fun z => absurd z (by omega), fun _ => ⟨⟨by omega, by omega⟩, rfl, ⟨by omega, by omega⟩, hQ _ _ rfl⟩⟩⟩⟩⟩
theorem s_knownComings {d : Nat} {M : Mem} {n r F : Nat} {C S : Nat → Int} {A : Nat → Nat → Int} (hN : NC M n C S A) (hO : nOk n C S A) (hr : r < n) (hF : F < 128) : Post (d + 2) cN_knownComings [oN, .inl (r : Int), .inl (F : Int)] M (fun v M' => M' = M ∧ v = known C S A (bt F) r n) := by
  intro Q hQ
  have h4 := hO.1
  have hc := hO.2.2.2.1 r (by omega)
  refine e_N_knownComings (b_N_knownComings_0 ?_)
  rw [Int.toNat_natCast, hN.2.1 r (by omega)]
  refine ⟨⟨by omega, by omega⟩, ⟨by omega, by omega⟩, ?_⟩
  have loop : ∀ (g k : Nat), k + g = n → L_N_knownComings_10 (d + 1) Q M (r : Int) (F : Int) (known C S A (bt F) r k) (k : Int) := by
    intro g
    induction g with
    | zero =>
      intro k hk
      have hk : k = n := by omega
      subst hk
      refine b_N_knownComings_10 ?_
      rw [hN.1]
      exact ⟨⟨by omega, by omega⟩, ⟨by omega, by omega⟩, fun _ => hQ _ _ ⟨rfl, rfl⟩, fun z => absurd (Int.le_refl _) z⟩
    | succ g ih =>
      intro k hk
      refine b_N_knownComings_10 ?_
      rw [hN.1, show (k : Int) + 1 = ((k + 1 : Nat) : Int) by omega]
      refine ⟨⟨by omega, by omega⟩, ⟨by omega, by omega⟩, fun z => absurd z (by omega), fun _ => ?_⟩
      have st := ih (k + 1) (by omega)
      rw [show known C S A (bt F) r (k + 1) = known C S A (bt F) r k + (if F.testBit k = true then S k * A k r else 0) from rfl] at st
      refine (s_isIn (d := d) hF (show k < 32 by omega)).cal fun v2 M2 hM2 => ?_
      obtain ⟨rfl, ⟨rfl, g3⟩ | ⟨rfl, g3⟩⟩ := hM2
      · obtain ⟨r1, r2, r3⟩ := wra138 k (by omega)
        have hs := hO.2.2.2.2 k (by omega)
        have ha := hO.2.1.2.2.1 k r (by omega) (by omega)
        rw [Int.toNat_natCast, Int.toNat_natCast, r1, r2, r3, hN.2.2.1 k (by omega), hN.2.2.2 k r (by omega) (by omega)]
        rw [if_pos g3] at st
        exact ⟨⟨by decide, by decide⟩, fun z => absurd z (by decide), fun _ => ⟨⟨by omega, by omega⟩, ⟨by omega, by omega⟩, rfl, ⟨by omega, by omega⟩, ⟨by omega, by omega⟩, st⟩⟩
      · rw [if_neg (by rw [g3]; decide), Int.add_zero] at st
        exact ⟨⟨by decide, by decide⟩, fun _ => st, fun z => absurd rfl z⟩
  exact loop n 0 (by omega)
/-- a cell, where the column p is replaced -/
def dwN (n : Nat) (C S : Nat → Int) (A : Nat → Nat → Int) (F : Nat) (p : Int) (a c : Nat) : Int := if (c : Int) = p then known C S A (bt F) a n else ntN n C S A (bt F) a c
theorem s_detWith {d : Nat} {M : Mem} {n F : Nat} {p : Int} {C S : Nat → Int} {A : Nat → Nat → Int} (hN : NC M n C S A) (hO : nOk n C S A) (hF : F < 128) (hp : R32 p) : Post (d + 3) cN_determinantWith [oN, .inl (F : Int), .inl p] M (fun v M' => Fr nsqC M M' ∧ ((v : Int) : Rat) = wed n (fun a c => ((dwN n C S A F p a c : Int) : Rat)) n (full n)) := by
  intro Q hQ
  have h4 := hO.1
  refine e_N_determinantWith (b_N_determinantWith_0 ?_)
  have outer : ∀ (g i : Nat), i + g = n → ∀ M1 o4 o5 o6, Fr nsqC M M1 → (∀ a c, a < i → c < n → M1 (84 + a) c = dwN n C S A F p a c) → L_N_determinantWith_2 (d + 2) Q M1 (F : Int) p (i : Int) o4 o5 o6 := by
    intro g
    induction g with
    | zero =>
      intro i hi M1 o4 o5 o6 f1 hall
      have hi : i = n := by omega
      subst hi
      refine b_N_determinantWith_2 ?_
      rw [(hN.sq f1).1]
      refine ⟨⟨by omega, by omega⟩, ⟨by omega, by omega⟩, fun _ => ?_, fun z => absurd (Int.le_refl _) z⟩
      refine (s_det (d := d) isSq81 (by omega)).cal fun v2 M2 hM2 => ?_
      obtain ⟨f2, g2⟩ := hM2
      refine hQ _ _ ⟨f1.tr (f2.mono (by simp)), ?_⟩
      rw [g2]
      refine congrFun (wed_cells i fun a c ha hc => ?_) _
      show ((M1 (81 + 3 + a) c : Int) : Rat) = _
      rw [show 81 + 3 + a = 84 + a by omega, hall a c ha hc]
    | succ g ih =>
      intro i hi M1 o4 o5 o6 f1 hall
      refine b_N_determinantWith_2 ?_
      rw [(hN.sq f1).1]
      refine ⟨⟨by omega, by omega⟩, ⟨by omega, by omega⟩, fun z => absurd z (by omega), fun _ => ?_⟩
      have inner : ∀ (h j : Nat), j + h = n → ∀ M3 o5 o6, Fr nsqC M M3 → (∀ a c, a < i → c < n → M3 (84 + a) c = dwN n C S A F p a c) → (∀ c, c < j → M3 (84 + i) c = dwN n C S A F p i c) → L_N_determinantWith_8 (d + 2) Q M3 (F : Int) p (i : Int) (j : Int) o5 o6 := by
        intro h
        induction h with
        | zero =>
          intro j hj M3 o5 o6 f3 hall3 hrow
          have hj : j = n := by omega
          subst hj
          refine b_N_determinantWith_8 ?_
          rw [(hN.sq f3).1, show (i : Int) + 1 = ((i + 1 : Nat) : Int) by omega]
          refine ⟨⟨by omega, by omega⟩, ⟨by omega, by omega⟩, fun _ => ?_, fun z => absurd (Int.le_refl _) z⟩
          refine ih (i + 1) (by omega) M3 _ _ _ f3 fun a c ha hc => ?_
          by_cases e : a = i
          · rw [e]; exact hrow c hc
          · exact hall3 a c (by omega) hc
        | succ h ihh =>
          intro j hj M3 o5 o6 f3 hall3 hrow
          have N3 := hN.sq f3
          have ha := hO.2.1.2.2.1 j i (by omega) (by omega)
          have st : ∀ (v w : Int), v = dwN n C S A F p i j → cald (d + 2) cS_put [.inr (.inr (.inl 81)), .inl (i : Int), .inl (j : Int), .inr (.inl v)] M3 (fun r M2 => Rt r (fun _v2 => L_N_determinantWith_8 (d + 2) Q M2 (F : Int) p (i : Int) ((j : Int) + 1) (some (.inr (.inl w))) none) (fun x => Q (.inr x) M2)) := fun v w hv => by
            refine (s_Nput (d := d + 1) (show i < 6 by omega) (show j < 6 by omega)).cal fun v5 M5 hM5 => ?_
            subst hM5
            rw [show (j : Int) + 1 = ((j + 1 : Nat) : Int) by omega]
            refine ihh (j + 1) (by omega) _ _ _ (f3.u2 (nsq_in (by omega))) (fun a c h1 h2 => ?_) fun c h1 => ?_
            · rw [u2_off (by omega)]; exact hall3 a c h1 h2
            · by_cases e : c = j
              · rw [e, u2_same]; exact hv
              · rw [u2_ne e]; exact hrow c (by omega)
          have l26 : ∀ w : Int, w = (if (bt F) j = true then 0 else A j i) → L_N_determinantWith_26 (d + 2) Q M3 (F : Int) p (i : Int) (j : Int) w := fun w hw => by
            have ev : dwN n C S A F p i j = if (j : Int) = p then known C S A (bt F) i n else (if i = j then 100 else 0) - w := by
              unfold dwN ntN
              rw [if_neg (show ¬ j = n by omega), hw]
            refine b_N_determinantWith_26 ⟨⟨by omega, by omega⟩, hp, fun z => ⟨⟨by omega, by omega⟩, fun z2 => st _ _ ?_, fun z2 => st _ _ ?_⟩, fun z => ?_⟩
            · rw [ev, if_neg z, if_neg (by omega)]
            · rw [ev, if_neg z, if_pos (by omega)]
            · refine (s_knownComings (d := d) N3 hO (show i < n by omega) hF).cal fun v4 M4 hM4 => ?_
              obtain ⟨e4, rfl⟩ := hM4
              rw [e4]
              refine st _ _ ?_
              rw [ev, if_pos (Classical.not_not.mp z)]
          refine b_N_determinantWith_8 ?_
          rw [N3.1]
          refine ⟨⟨by omega, by omega⟩, ⟨by omega, by omega⟩, fun z => absurd z (by omega), fun _ => ?_⟩
          refine (s_isIn (d := d + 1) hF (show j < 32 by omega)).cal fun v4 M4 hM4 => ?_
          obtain ⟨e4, ⟨rfl, g4⟩ | ⟨rfl, g4⟩⟩ := hM4
          · rw [e4]
            exact ⟨⟨by decide, by decide⟩, fun z => absurd z (by decide), fun _ => l26 0 (by rw [if_pos (show bt F j = true from g4)])⟩
          · rw [e4]
            obtain ⟨r1, r2, r3⟩ := wra138 j (by omega)
            rw [Int.toNat_natCast, Int.toNat_natCast, r1, r2, r3, N3.2.2.2 j i (by omega) (by omega)]
            exact ⟨⟨by decide, by decide⟩, fun _ => ⟨⟨by omega, by omega⟩, rfl, ⟨by omega, by omega⟩, ⟨by omega, by omega⟩, l26 _ (by rw [if_neg (show ¬ bt F j = true by rw [show bt F j = false from g4]; decide)])⟩, fun z => absurd rfl z⟩
      exact inner n 0 (by omega) M1 _ _ f1 hall fun c h => absurd h (Nat.not_lt_zero c)
  exact outer n 0 (by omega) M _ _ _ Fr.rfl' fun a c h => absurd h (Nat.not_lt_zero a)
abbrev solN : List Nat := [140, 142, 83, 84, 85, 86, 87, 88, 89]
def NSol (M : Mem) (n : Nat) (C S : Nat → Int) (A : Nat → Nat → Int) (f : Nat → Bool) : Prop := ∃ (X : Nat → Nat) (Y : Nat), M 142 7 = Y ∧ 0 < Y ∧ Y ≤ 25600000000 ∧ ∀ i, i < n → M 140 i = X i ∧ X i ≤ 128000000000000 ∧ mkRat (X i : Int) Y = nsQ n C S A f i
theorem s_Nsolve {d : Nat} {M : Mem} {n F : Nat} {C S : Nat → Int} {A : Nat → Nat → Int} (hN : NC M n C S A) (hO : nOk n C S A) (hR : ratesOk n A) (hF : F < 128) : Post (d + 4) cN_solve [oN, .inl (F : Int)] M (fun _ M' => Fr solN M M' ∧ NC M' n C S A ∧ NSol M' n C S A (bt F)) := by
  intro Q hQ
  have h4 := hO.1
  obtain ⟨Dp, Np⟩ := net_pos hO hR (bt F)
  have d0 : ∀ a c, a < n → c < n → ((dwN n C S A F (-1) a c : Int) : Rat) = ntQ n C S A (bt F) a c := fun a c _ _ => by
    show ((dwN n C S A F (-1) a c : Int) : Rat) = ((ntN n C S A (bt F) a c : Int) : Rat)
    unfold dwN
    rw [if_neg (by omega)]
  have d1 : ∀ i, i < n → ∀ a c, a < n → c < n → ((dwN n C S A F (i : Int) a c : Int) : Rat) = colR (ntQ n C S A (bt F)) (fc i n) a c := fun i _ a c _ hc => by
    show ((dwN n C S A F (i : Int) a c : Int) : Rat) = ((ntN n C S A (bt F) a (if c = i then n else c) : Int) : Rat)
    unfold dwN
    by_cases e : c = i
    · rw [if_pos (by omega), if_pos e]
      unfold ntN
      rw [if_pos rfl]
    · rw [if_neg (by omega), if_neg e]
  have w0 : ∀ a c, a < n → c < n → Wh (ntQ n C S A (bt F) a c) 100 := fun a c ha hc => ⟨_, rfl, ntN_r hO ha hc⟩
  have w1 : ∀ i, i < n → ∀ a c, a < n → c < n → Wh (colR (ntQ n C S A (bt F)) (fc i n) a c) (if c = i then 5000 * 100 else 100) := fun i _ a c ha hc => by
    show Wh (ntQ n C S A (bt F) a (if c = i then n else c)) _
    by_cases e : c = i
    · rw [if_pos e, if_pos e]
      have := ntN_n (f := bt F) hO ha
      exact ⟨_, rfl, by omega, by omega⟩
    · rw [if_neg e, if_neg e]; exact w0 a c ha hc
  refine e_N_solve (b_N_solve_0 ?_)
  refine (s_detWith (d := d) (p := -1) hN hO hF ⟨by decide, by decide⟩).cal fun v1 M1 hM1 => ?_
  obtain ⟨f1, k1⟩ := hM1
  rw [wed_cells n d0] at k1
  have r1 := net_det0 h4.2 w0 k1
  have dp := Dp n (Nat.le_refl n)
  rw [show Dd (ntQ n C S A (bt F)) n = wed n (ntQ n C S A (bt F)) n (full n) from rfl, ← k1] at dp
  have vp : 0 < v1 := Rat.intCast_lt_intCast.mp dp
  obtain ⟨Y, rfl⟩ : ∃ Y : Nat, v1 = Y := ⟨v1.toNat, by omega⟩
  rw [show max (Y : Int) 1 = (Y : Int) by omega]
  refine ⟨⟨by omega, by omega⟩, ?_⟩
  have N1 := hN.sq f1
  have loop : ∀ (g k : Nat), k + g = n → ∀ M2, Fr solN M M2 → NC M2 n C S A → M2 142 7 = (Y : Int) → (∀ i, i < k → ∃ X : Nat, M2 140 i = X ∧ X ≤ 128000000000000 ∧ mkRat (X : Int) Y = nsQ n C S A (bt F) i) → L_N_solve_10 (d + 3) Q M2 (F : Int) (k : Int) := by
    intro g
    induction g with
    | zero =>
      intro k hk M2 f2 N2 y2 hall
      have hk : k = n := by omega
      subst hk
      refine b_N_solve_10 ?_
      rw [N2.1]
      refine ⟨⟨by omega, by omega⟩, ⟨by omega, by omega⟩, fun _ => hQ _ _ ⟨f2, N2, fun i => (M2 140 i).toNat, Y, y2, by omega, by omega, fun i hi => ?_⟩, fun z => absurd (Int.le_refl _) z⟩
      obtain ⟨X, x1, x2, x3⟩ := hall i hi
      have e : (M2 140 i).toNat = X := by omega
      show M2 140 i = (((M2 140 i).toNat : Nat) : Int) ∧ (M2 140 i).toNat ≤ 128000000000000 ∧ mkRat (((M2 140 i).toNat : Nat) : Int) Y = nsQ _ C S A (bt F) i
      rw [e]
      exact ⟨x1, x2, x3⟩
    | succ g ih =>
      intro k hk M2 f2 N2 y2 hall
      refine b_N_solve_10 ?_
      rw [N2.1]
      refine ⟨⟨by omega, by omega⟩, ⟨by omega, by omega⟩, fun z => absurd z (by omega), fun _ => ?_⟩
      refine (s_detWith (d := d) (p := (k : Int)) N2 hO hF ⟨by omega, by omega⟩).cal fun v3 M3 hM3 => ?_
      obtain ⟨f3, k3⟩ := hM3
      have hk' : k < n := by omega
      rw [wed_cells n (d1 k hk')] at k3
      have r3 := net_det1 h4.2 (w1 k hk') k3
      have np := Np k hk'
      rw [← k3] at np
      have vn : 0 ≤ v3 := Rat.intCast_nonneg.mp np
      obtain ⟨X, rfl⟩ : ∃ X : Nat, v3 = X := ⟨v3.toNat, by omega⟩
      rw [Int.toNat_natCast, show (k : Int) + 1 = ((k + 1 : Nat) : Int) by omega]
      have N3 := N2.sq f3
      refine ⟨⟨by omega, by omega⟩, ih (k + 1) (by omega) _ ((f2.tr (f3.mono (by simp))).u2 (by simp)) (N3.kept (l := [140]) (Fr.rfl'.u2 (by simp)) (by decide) (by decide) (by decide) (fun i hi => by simp; omega)) (by rw [u2_off (by decide), f3 142 (by decide)]; exact y2) fun i hi => ?_⟩
      by_cases e : i = k
      · subst e
        refine ⟨X, u2_same, by omega, ?_⟩
        rw [mkRat_ratio, k1, k3]
        rfl
      · rw [u2_ne e, f3 140 (by decide)]; exact hall i (by omega)
  refine loop n 0 (by omega) _ ((f1.mono (by simp)).u2 (by simp)) ⟨?_, fun i hi => ?_, fun i hi => ?_, fun i j hi hj => ?_⟩ u2_same fun i h => absurd h (Nat.not_lt_zero i)
  · rw [u2_ne (by decide)]; exact N1.1
  · rw [u2_off (by decide)]; exact N1.2.1 i hi
  · rw [u2_off (by decide)]; exact N1.2.2.1 i hi
  · rw [u2_off (by omega)]; exact N1.2.2.2 i j hi hj
