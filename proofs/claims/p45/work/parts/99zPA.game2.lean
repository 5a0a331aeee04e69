/-! isGame. -/
def gTot (C S ch : Nat → Int) : Nat → Int := sumN (fun i => ch i * (C i + S i * ch i))
theorem gTot3 {C S ch : Nat → Int} : gTot C S ch 3 = gSum C S ch := by
  unfold gTot gSum
  show 0 + ch 0 * (C 0 + S 0 * ch 0) + ch 1 * (C 1 + S 1 * ch 1) + ch 2 * (C 2 + S 2 * ch 2) = _
  rw [gPay_c, gPay_c, gPay_c]
  omega
theorem gTot_s {C S ch : Nat → Int} {s : Nat} : gTot C S ch (s + 1) = gTot C S ch s + ch s * (C s + S s * ch s) := rfl
def gCnt (x y : Nat → Int) : Nat → Int := sumN (fun i => x i + 100 * y i)
theorem gPr_div {C S : Nat → Int} {P : Nat} (h : gSum C S (gCh C S 1 P) ≠ 0) (h0 : 0 ≤ gSum C S (gCh C S 1 P)) : gPrice C S P = ((gSum C S (gCh C S 0 P) : Int) : Rat) / ((gSum C S (gCh C S 1 P) : Int) : Rat) := by
  unfold gPrice
  rw [if_neg h, Rat.mkRat_eq_div]
  have : (((gSum C S (gCh C S 1 P)).toNat : Nat) : Rat) = ((gSum C S (gCh C S 1 P) : Int) : Rat) := by
    rw [← Rat.intCast_natCast, Int.toNat_of_nonneg h0]
  rw [this]
theorem gPr_one {C S : Nat → Int} {P : Nat} (h : gSum C S (gCh C S 1 P) = 0) : gPrice C S P = ((1 : Int) : Rat) / ((1 : Int) : Rat) := by
  unfold gPrice
  rw [if_pos h, Rat.mkRat_eq_div]
  rfl
set_option maxHeartbeats 8000000 in
theorem s_isGame {d r : Nat} {M : Mem} {C : LMem} {j : StJ} {l : StL} {c : StC} {n : StN} {e : StE} {g : StG} {h : StH} {t : StT} {f : Nat → Int} (q : IQ j l c n e g h t M) (hr : C r = (1, 1, f)) : LPo (d + 131) cW_isGame [oH, .inr (.inr (.inl (r + 1)))] M C (fun v m c' => v = 1 ∧ LF [r] C c' ∧ ∃ g', IQ j l c n e g' h t m) := fun Q hQ => by
  refine e_W_isGame (b_W_isGame_0 ⟨by omega, fun q1 hq1 => ⟨by omega, fun q2 hq2' => ?_⟩⟩)
  have n1r : q1 ≠ r := ne_new hr hq1
  have n21 : q2 ≠ q1 := fun z => by
    rw [z, cst_self] at hq2'
    cases hq2'
  have hq2 : (C q2).1 = 0 := by rw [cst_ne n21] at hq2'; exact hq2'
  have n2r : q2 ≠ r := ne_new hr hq2
  -- the end
  have fin : ∀ (M1 : Mem) (C1 : LMem) (kc : Nat) (g1 : StG) (o1 o2 o3 o4 o5 o6 o7 o8 o9 o10 o11 : Option PV), kc ≤ 900 → IQ j l c n e g1 h t M1 → LF [r] C C1 → L_W_isGame_259 (d + 130) Q M1 C1 kc o1 o2 o3 o4 o5 o6 o7 o8 o9 o10 o11 := by
    intro M1 C1 kc g1 o1 o2 o3 o4 o5 o6 o7 o8 o9 o10 o11 hk hq hf
    refine b_W_isGame_259 ⟨by omega, ?_⟩
    refine c_splitNo hq (a := 31) (b := 0) (x := 0) (z := 0) (fun z => absurd z.1.2 (by decide)) ⟨by decide, by decide⟩ ⟨by decide, by decide⟩ ⟨by decide, by decide⟩ ⟨by decide, by decide⟩ _ ?_
    rintro v m c1 ⟨rfl, hq2, rfl⟩
    refine ⟨⟨by omega, by omega⟩, fun z => absurd rfl z, fun _ => ⟨by omega, ?_⟩⟩
    refine c_optionNo (a := 3) (b := 0) (x := 0) (z := 0) (fun z => absurd z.1.2 (by decide)) ⟨by decide, by decide⟩ ⟨by decide, by decide⟩ ⟨by decide, by decide⟩ ⟨by decide, by decide⟩ _ ?_
    rintro v m c1 ⟨rfl, rfl, rfl⟩
    exact ⟨⟨by omega, by omega⟩, fun z => absurd rfl z, fun _ => hQ _ _ _ ⟨rfl, hf, g1, hq2⟩⟩
  -- all that is done once the three lines are told
  have main : ∀ (M1 : Mem) (C1 : LMem) (kc : Nat) (g1 : StG) (fc fs fx : Nat → Int) (P q3 : Nat) (o1 : Option PV), kc ≤ 200 → IQ j l c n e g1 h t M1 → LF [r] C C1 → (1 ≤ P ∧ P ≤ 30) → C1 q1 = (1, 3, fc) → C1 q2 = (1, 3, fs) → C1 q3 = (1, 3, fx) → (∀ i, i < 3 → g1.1 i = fc i ∧ g1.2 i = fs i) → (∀ i, i < 3 → fx i = gCh g1.1 g1.2 0 P i) →
      ∀ (o8 o10 o11 : Option PV), L_W_isGame_131 (d + 130) Q M1 C1 kc o1 q1 q2 (P : Int) q3 (gSum g1.1 g1.2 (gCh g1.1 g1.2 0 P)) (gSum g1.1 g1.2 (gCh g1.1 g1.2 1 P)) o8 0 o10 o11 := by
    intro M1 C1 kc g1 fc fs fx P q3 o1 hk hq hf hP h1 h2 h3 hcs hx
    have hg := hq.gm.1
    have hr0 := fun i => gCh_r (C := g1.1) (S := g1.2) (b := 0) P i
    have hr1 := fun i => gCh_r (C := g1.1) (S := g1.2) (b := 1) P i
    have hs0 := gSum_r (C := g1.1) (S := g1.2) (ch := gCh g1.1 g1.2 0 P) hg (fun i _ => by have := hr0 i; omega)
    have hs1 := gSum_r (C := g1.1) (S := g1.2) (ch := gCh g1.1 g1.2 1 P) hg (fun i _ => by have := hr1 i; omega)
    have hbal := gB0 hg P
    -- 179, 184
    have l179 : ∀ (k a : Nat) (kc : Nat) (o5 o8 o10 o11 : Option PV), a + k = P + 1 → kc ≤ 200 → L_W_isGame_179 (d + 130) Q M1 C1 kc o1 q1 q2 (P : Int) o5 (gSum g1.1 g1.2 (gCh g1.1 g1.2 0 P)) (gSum g1.1 g1.2 (gCh g1.1 g1.2 1 P)) o8 (a : Int) o10 o11 := by
      intro k
      induction k with
      | zero =>
        intro a kc o5 o8 o10 o11 ha hk
        refine b_W_isGame_179 ⟨⟨by omega, by omega⟩, ⟨by omega, by omega⟩, fun _ => ⟨by omega, ?_⟩, fun z => absurd (by omega) z⟩
        refine c_price hq ⟨by omega, by omega⟩ ⟨by decide, by decide⟩ ⟨by decide, by decide⟩ ⟨by decide, by decide⟩ _ ?_
        rintro v m c1 ⟨rfl, hq2, hc, rfl⟩
        rw [Int.toNat_natCast] at hc ⊢
        by_cases z : gSum g1.1 g1.2 (gCh g1.1 g1.2 1 P) = 0
        · refine ⟨⟨by omega, by omega⟩, fun w => absurd z w, fun _ => ⟨by omega, ?_⟩⟩
          refine s_of (d := d + 2) ⟨by omega, by omega⟩ ⟨by omega, by omega⟩ (by omega) _ ?_
          rintro v m2 C2 ⟨rfl, qa, rfl, hqa, hf2, hl⟩
          rw [← gPr_one z] at hl
          rw [show ((qa + 1 : Nat) : Int).toNat = qa + 1 by omega]
          refine ⟨by omega, ?_⟩
          have hB : Bq (gPrice g1.1 g1.2 P) 1 1 := by rw [gPr_one z]; exact Bq_div (by decide)
          refine s_isCame (d := d) hc (hB.ok (by decide) (by decide)) hl _ ?_
          rintro v m c2 ⟨rfl, rfl, hf3⟩
          exact ⟨⟨by omega, by omega⟩, fun w => absurd w (by decide), fun _ => fin _ _ _ g1 _ _ _ _ _ _ _ _ _ _ _ (by omega) hq2 ((hf.tr hf2.nil).tr hf3.nil)⟩
        · refine ⟨⟨by omega, by omega⟩, fun _ => ⟨⟨by omega, by omega⟩, by omega, ?_⟩, fun w => absurd z w⟩
          refine s_of (d := d + 2) ⟨by omega, by omega⟩ ⟨by omega, by omega⟩ z _ ?_
          rintro v m2 C2 ⟨rfl, qa, rfl, hqa, hf2, hl⟩
          rw [← gPr_div z hs1.1] at hl
          rw [show ((qa + 1 : Nat) : Int).toNat = qa + 1 by omega]
          refine ⟨by omega, ?_⟩
          have hB : Bq (gPrice g1.1 g1.2 P) 450000 450000 := by rw [gPr_div z hs1.1]; exact (Bq_div z).mono (by omega) (by omega)
          refine s_isCame (d := d) hc (hB.ok (by decide) (by decide)) hl _ ?_
          rintro v m c2 ⟨rfl, rfl, hf3⟩
          exact ⟨⟨by omega, by omega⟩, fun w => absurd w (by decide), fun _ => fin _ _ _ g1 _ _ _ _ _ _ _ _ _ _ _ (by omega) hq2 ((hf.tr hf2.nil).tr hf3.nil)⟩
      | succ k ih =>
        intro a kc o5 o8 o10 o11 ha hk
        have l184 : ∀ (k2 b : Nat) (kc : Nat) (o8 o11 : Option PV), a + b + k2 = P + 1 → kc ≤ 200 → L_W_isGame_184 (d + 130) Q M1 C1 kc o1 q1 q2 (P : Int) o5 (gSum g1.1 g1.2 (gCh g1.1 g1.2 0 P)) (gSum g1.1 g1.2 (gCh g1.1 g1.2 1 P)) o8 (a : Int) (b : Int) o11 := by
          intro k2
          induction k2 with
          | zero =>
            intro b kc o8 o11 hb hk
            exact b_W_isGame_184 ⟨⟨by omega, by omega⟩, ⟨by omega, by omega⟩, fun _ => ih (a + 1) kc o5 _ _ _ (by omega) hk, fun z => absurd (by omega) z⟩
          | succ k2 ih2 =>
            intro b kc o8 o11 hb hk
            refine b_W_isGame_184 ⟨⟨by omega, by omega⟩, ⟨by omega, by omega⟩, fun z => absurd z (by omega), fun _ => ?_⟩
            simp only [h1, h2]
            rw [← (hcs 0 (by decide)).1, ← (hcs 0 (by decide)).2, ← (hcs 1 (by decide)).1, ← (hcs 1 (by decide)).2, ← (hcs 2 (by decide)).1, ← (hcs 2 (by decide)).2]
            have hmin := gMin (C := g1.1) (S := g1.2) hg (P := P) (y0 := (a : Int)) (y1 := (b : Int)) (y2 := (P : Int) - a - b) (by omega) (by omega) (by omega) (by omega)
            have p0 := gPay_r (C := g1.1) (S := g1.2) (l := 0) hg (by decide) (x := (a : Int)) (by omega)
            have p1 := gPay_r (C := g1.1) (S := g1.2) (l := 1) hg (by decide) (x := (b : Int)) (by omega)
            have p2 := gPay_r (C := g1.1) (S := g1.2) (l := 2) hg (by decide) (x := (P : Int) - a - b) (by omega)
            rw [gPay_c, gPay_c, gPay_c] at hmin ⊢
            have m0 := mul_r (x := (a : Int)) (a := 30) (by omega) (by omega) p0.1 p0.2
            have m1 := mul_r (x := (b : Int)) (a := 30) (by omega) (by omega) p1.1 p1.2
            have m2 := mul_r (x := (P : Int) - a - b) (a := 30) (by omega) (by omega) p2.1 p2.2
            exact ⟨trivial, ⟨by omega, by omega⟩, trivial, ⟨by omega, by omega⟩, ⟨by omega, by omega⟩, ⟨by omega, by omega⟩, ⟨by omega, by omega⟩, ⟨by omega, by omega⟩, ⟨by omega, by omega⟩, ⟨by omega, by omega⟩, fun _ => ih2 (b + 1) kc _ _ (by omega) hk, fun z => absurd hmin z⟩
        exact b_W_isGame_179 ⟨⟨by omega, by omega⟩, ⟨by omega, by omega⟩, fun z => absurd z (by omega), fun _ => l184 (P + 1 - a) 0 kc o8 o11 (by omega) hk⟩
    -- 131, 136
    have l131 : ∀ (k a : Nat) (kc : Nat) (o8 o10 o11 : Option PV), a + k = 3 → kc ≤ 200 → L_W_isGame_131 (d + 130) Q M1 C1 kc o1 q1 q2 (P : Int) q3 (gSum g1.1 g1.2 (gCh g1.1 g1.2 0 P)) (gSum g1.1 g1.2 (gCh g1.1 g1.2 1 P)) o8 (a : Int) o10 o11 := by
      intro k
      induction k with
      | zero =>
        intro a kc o8 o10 o11 ha hk
        exact b_W_isGame_131 ⟨⟨by omega, by omega⟩, fun _ => l179 (P + 1) 0 kc _ _ _ _ (by omega) hk, fun z => absurd (by omega) z⟩
      | succ k ih =>
        intro a kc o8 o10 o11 ha hk
        have l136 : ∀ (k2 b : Nat) (kc : Nat) (o8 o11 : Option PV), b + k2 = 3 → kc ≤ 200 → L_W_isGame_136 (d + 130) Q M1 C1 kc o1 q1 q2 (P : Int) q3 (gSum g1.1 g1.2 (gCh g1.1 g1.2 0 P)) (gSum g1.1 g1.2 (gCh g1.1 g1.2 1 P)) o8 (a : Int) (b : Int) o11 := by
          intro k2
          induction k2 with
          | zero =>
            intro b kc o8 o11 hb hk
            exact b_W_isGame_136 ⟨⟨by omega, by omega⟩, fun _ => ih (a + 1) kc _ _ _ (by omega) hk, fun z => absurd (by omega) z⟩
          | succ k2 ih2 =>
            intro b kc o8 o11 hb hk
            refine b_W_isGame_136 ⟨⟨by omega, by omega⟩, fun z => absurd z (by omega), fun _ => ⟨⟨by omega, by omega⟩, fun z => ih2 (b + 1) kc _ _ (by omega) hk, fun z => ?_⟩⟩
            simp only [h1, h2, h3, Int.toNat_natCast]
            have ha3 : a < 3 := by omega
            have hb3 : b < 3 := by omega
            rw [hx a ha3, hx b hb3, ← (hcs a ha3).1, ← (hcs a ha3).2, ← (hcs b hb3).1, ← (hcs b hb3).2, gPay_c, gPay_c]
            have ra := hr0 a
            have rb := hr0 b
            have pa := gPay_r (C := g1.1) (S := g1.2) (l := a) hg ha3 (x := gCh g1.1 g1.2 0 P a) (by omega)
            have pb := gPay_r (C := g1.1) (S := g1.2) (l := b) hg hb3 (x := gCh g1.1 g1.2 0 P b + 1) (by omega)
            refine ⟨trivial, ⟨by omega, by omega⟩, ⟨by omega, by omega⟩, fun _ => ih2 (b + 1) kc _ _ (by omega) hk, fun w => ⟨trivial, ⟨by omega, by omega⟩, trivial, ⟨by omega, by omega⟩, ⟨by omega, by omega⟩, ⟨by omega, by omega⟩, ⟨by omega, by omega⟩, ⟨by omega, by omega⟩, ⟨by omega, by omega⟩, fun _ => ih2 (b + 1) kc _ _ (by omega) hk, fun w2 => absurd (hbal a b ha3 hb3 (fun e9 => z (by rw [e9])) (by omega)) w2⟩⟩
        exact b_W_isGame_131 ⟨⟨by omega, by omega⟩, fun z => absurd z (by omega), fun _ => l136 3 0 kc _ _ (by omega) hk⟩
    intro o8 o10 o11
    exact l131 3 0 kc o8 o10 o11 rfl hk
  have l57 : ∀ (k s : Nat) (M1 : Mem) (C1 : LMem) (kc : Nat) (g1 : StG) (fc fs fx : Nat → Int) (P q3 : Nat) (o1 o10 o11 : Option PV), s + k = 3 → kc ≤ 20 + 6 * s → IQ j l c n e g1 h t M1 → LF [r] C C1 → (C q3).1 = 0 → q3 ≠ q1 → q3 ≠ q2 → (1 ≤ P ∧ P ≤ 30) → C1 q1 = (1, 3, fc) → C1 q2 = (1, 3, fs) → C1 q3 = (1, 3, fx) → (∀ i, i < 3 → g1.1 i = fc i ∧ g1.2 i = fs i) → (∀ i, i < s → fx i = gCh g1.1 g1.2 0 P i) →
      L_W_isGame_57 (d + 130) Q M1 C1 kc o1 q1 q2 (P : Int) q3 (gTot g1.1 g1.2 (gCh g1.1 g1.2 0 P) s) (gTot g1.1 g1.2 (gCh g1.1 g1.2 1 P) s) (gCnt (gCh g1.1 g1.2 0 P) (gCh g1.1 g1.2 1 P) s) (s : Int) o10 o11 := by
    intro k
    induction k with
    | zero =>
      intro s M1 C1 kc g1 fc fs fx P q3 o1 o10 o11 hs hk hq hf hq3 n31 n32 hP h1 h2 h3 hcs hx
      have e3 : s = 3 := by omega
      subst e3
      have hc0 := gCh_sum (C := g1.1) (S := g1.2) (b := 0) P
      have hc1 := gCh_sum (C := g1.1) (S := g1.2) (b := 1) P
      have ec : gCnt (gCh g1.1 g1.2 0 P) (gCh g1.1 g1.2 1 P) 3 = 101 * (P : Int) := by
        unfold gCnt
        show 0 + (gCh g1.1 g1.2 0 P 0 + 100 * gCh g1.1 g1.2 1 P 0) + (gCh g1.1 g1.2 0 P 1 + 100 * gCh g1.1 g1.2 1 P 1) + (gCh g1.1 g1.2 0 P 2 + 100 * gCh g1.1 g1.2 1 P 2) = _
        omega
      rw [ec, gTot3, gTot3]
      exact b_W_isGame_57 ⟨⟨by omega, by omega⟩, fun _ => ⟨⟨by omega, by omega⟩, ⟨by omega, by omega⟩, fun _ => main M1 C1 kc g1 fc fs fx P q3 o1 (by omega) hq hf hP h1 h2 h3 hcs hx _ _ _, fun z => absurd rfl z⟩, fun z => absurd (by omega) z⟩
    | succ k ih =>
      intro s M1 C1 kc g1 fc fs fx P q3 o1 o10 o11 hs hk hq hf hq3 n31 n32 hP h1 h2 h3 hcs hx
      refine b_W_isGame_57 ⟨⟨by omega, by omega⟩, fun z => absurd z (by omega), fun _ => ⟨by omega, ?_⟩⟩
      refine c_split hq (a := (P : Int)) (b := (s : Int)) (x := 0) (z := 0) ⟨⟨by omega, by omega⟩, by omega, by omega⟩ ⟨by decide, by decide⟩ ⟨by decide, by decide⟩ _ ?_
      rintro v m c1 ⟨rfl, hq2, rfl⟩
      simp only [h3, cup_of h3, Int.toNat_natCast]
      refine ⟨trivial, ⟨by omega, by omega⟩, by omega, ?_⟩
      refine c_split hq2 (a := (P : Int)) (b := (s : Int)) (x := 1) (z := 0) ⟨⟨by omega, by omega⟩, by omega, by omega⟩ ⟨by decide, by decide⟩ ⟨by decide, by decide⟩ _ ?_
      rintro v m2 c2 ⟨rfl, hq3', rfl⟩
      have a1 : cst c1 q3 (1, 3, sr fx s (gCh g1.1 g1.2 (if (0 : Int) = 1 then 1 else 0) P s)) q1 = (1, 3, fc) := by rw [cst_ne (Ne.symm n31)]; exact h1
      have a2 : cst c1 q3 (1, 3, sr fx s (gCh g1.1 g1.2 (if (0 : Int) = 1 then 1 else 0) P s)) q2 = (1, 3, fs) := by rw [cst_ne (Ne.symm n32)]; exact h2
      simp only [a1, a2, cst_self, sr_same]
      refine ⟨trivial, ⟨by omega, by omega⟩, trivial, ⟨by omega, by omega⟩, trivial, ⟨by omega, by omega⟩, ?_⟩
      have i0 : (if (0 : Int) = 1 then (1 : Int) else 0) = 0 := rfl
      have i1 : (if (1 : Int) = 1 then (1 : Int) else 0) = 1 := rfl
      rw [i0] at a1 a2 ⊢
      rw [if_pos trivial, Int.toNat_natCast, Int.toNat_natCast]
      have hs3 : s < 3 := by omega
      rw [← (hcs s hs3).1, ← (hcs s hs3).2]
      exact ih (s + 1) m2 _ _ g1 fc fs (sr fx s (gCh g1.1 g1.2 0 P s)) P q3 o1 _ o11 (by omega) (by omega) hq3' (hf.set hq3) hq3 n31 n32 hP a1 a2 cst_self hcs (fun i hi => by
        by_cases z : i = s
        · subst z
          exact sr_same
        · rw [sr_ne z]
          exact hx i (by omega))
  have l8 : ∀ (k s : Nat) (M1 : Mem) (C1 : LMem) (kc : Nat) (g1 : StG) (fc fs : Nat → Int) (f1 : Nat → Int) (o5 o6 o7 o8 o9 o10 o11 : Option PV), s + k = 3 → kc ≤ 2 + 3 * s → IQ j l c n e g1 h t M1 → LF [r] C C1 → C1 r = (1, 1, f1) → C1 q1 = (1, 3, fc) → C1 q2 = (1, 3, fs) → (∀ i, i < s → g1.1 i = fc i ∧ g1.2 i = fs i) → L_W_isGame_8 (d + 130) Q M1 C1 kc r q1 q2 (s : Int) o5 o6 o7 o8 o9 o10 o11 := by
    intro k
    induction k with
    | zero =>
      intro s M1 C1 kc g1 fc fs f1 o5 o6 o7 o8 o9 o10 o11 hs hk hq hf h0 h1 h2 hcs
      have e3 : s = 3 := by omega
      subst e3
      refine b_W_isGame_8 ⟨⟨by omega, by omega⟩, fun _ => ⟨by omega, ?_⟩, fun z => absurd (by omega) z⟩
      refine s_fromF h0 (by omega) (by omega) _ ?_
      rintro v m C2 ⟨rfl, hv, ⟨f2, h02⟩, hf2⟩
      refine ⟨by omega, fun q3 hq3 => ?_⟩
      have hf3 := hf.tr hf2
      have b1 := hf2.at' (k := 0) (nin1 n1r) h1
      have b2 := hf2.at' (k := 0) (nin1 n2r) h2
      have n31 : q3 ≠ q1 := ne_new b1 hq3
      have n32 : q3 ≠ q2 := ne_new b2 hq3
      obtain ⟨P, hP⟩ : ∃ P : Nat, v = (P : Int) := ⟨v.toNat, by omega⟩
      subst hP
      exact l57 3 0 m _ _ g1 fc fs (fun _ => 0) P q3 _ _ _ rfl (by omega) hq (hf3.new hq3) (hf3.free hq3) n31 n32 (by omega) (by rw [cst_ne (Ne.symm n31)]; exact b1) (by rw [cst_ne (Ne.symm n32)]; exact b2) cst_self hcs (fun i hi => absurd hi (Nat.not_lt_zero i))
    | succ k ih =>
      intro s M1 C1 kc g1 fc fs f1 o5 o6 o7 o8 o9 o10 o11 hs hk hq hf h0 h1 h2 hcs
      refine b_W_isGame_8 ⟨⟨by omega, by omega⟩, fun z => absurd z (by omega), fun _ => ⟨by omega, ?_⟩⟩
      refine s_nextF h0 _ ?_
      rintro v1 m C2 ⟨rfl, hv1, ⟨f2, h02⟩, hf2⟩
      have b1 := hf2.at' (k := 0) (nin1 n1r) h1
      have b2 := hf2.at' (k := 0) (nin1 n2r) h2
      simp only [b1, cup_of b1, Int.toNat_natCast]
      refine ⟨⟨by omega, by omega⟩, trivial, ⟨by omega, by omega⟩, by omega, ?_⟩
      have c0 : cst C2 q1 (1, 3, sr fc s (v1 % 40)) r = (1, 1, f2) := by rw [cst_ne (Ne.symm n1r)]; exact h02
      have c1 : cst C2 q1 (1, 3, sr fc s (v1 % 40)) q1 = (1, 3, sr fc s (v1 % 40)) := cst_self
      have c2 : cst C2 q1 (1, 3, sr fc s (v1 % 40)) q2 = (1, 3, fs) := by rw [cst_ne n21]; exact b2
      refine s_nextF c0 _ ?_
      rintro v2 m C3 ⟨rfl, hv2, ⟨f3, h03⟩, hf3⟩
      have d1 := hf3.at' (k := 0) (nin1 n1r) c1
      have d2 := hf3.at' (k := 0) (nin1 n2r) c2
      have e1 : cst C3 q2 (1, 3, sr fs s (v2 % 6)) q1 = (1, 3, sr fc s (v1 % 40)) := by rw [cst_ne (Ne.symm n21)]; exact d1
      simp only [d2, cup_of d2, e1, cst_self, Int.toNat_natCast, sr_same]
      refine ⟨⟨by omega, by omega⟩, trivial, ⟨by omega, by omega⟩, trivial, ⟨by omega, by omega⟩, trivial, ⟨by omega, by omega⟩, by omega, ?_⟩
      refine c_option hq (a := (s : Int)) (b := v1 % 40) (x := v2 % 6) (z := 0) ⟨⟨by omega, by omega⟩, ⟨by omega, by omega⟩, by omega, by omega⟩ ⟨by decide, by decide⟩ _ ?_
      rintro v m3 c3 ⟨rfl, rfl, hq3⟩
      have hb := (hq.gm.1 (s : Int).toNat (by omega)).1
      refine ⟨⟨by omega, by omega⟩, fun _ => ?_, fun z => absurd hb.1 z⟩
      have hff : LF [r] C (cst C3 q2 (1, 3, sr fs s (v2 % 6))) := (((hf.tr hf2).set hq1).tr hf3).set hq2
      refine ih (s + 1) m3 _ _ _ (sr fc s (v1 % 40)) (sr fs s (v2 % 6)) f3 o5 o6 o7 o8 o9 o10 o11 (by omega) (by omega) hq3 hff (by rw [cst_ne (Ne.symm n2r)]; exact h03) e1 cst_self (fun i hi => ?_)
      show sr g1.1 (s : Int).toNat (v1 % 40) i = sr fc s (v1 % 40) i ∧ sr g1.2 (s : Int).toNat (v2 % 6) i = sr fs s (v2 % 6) i
      rw [Int.toNat_natCast]
      by_cases z : i = s
      · subst z
        rw [sr_same, sr_same, sr_same, sr_same]
        exact ⟨rfl, rfl⟩
      · rw [sr_ne z, sr_ne z, sr_ne z, sr_ne z]
        exact hcs i (by omega)
  have f0 : LF [r] C (cst (cst C q1 (1, 3, fun _ => 0)) q2 (1, 3, fun _ => 0)) := (LF.rf.set hq1).set hq2
  exact l8 3 0 M _ _ g (fun _ => 0) (fun _ => 0) f none none none none none none none rfl (by omega) q f0 (by rw [cst_ne (Ne.symm n2r), cst_ne (Ne.symm n1r)]; exact hr) (by rw [cst_ne (Ne.symm n21), cst_self]) cst_self (fun i hi => absurd hi (Nat.not_lt_zero i))
