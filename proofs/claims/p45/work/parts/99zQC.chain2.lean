/-! isChain: the rows. -/
section CHC
variable {d : Nat} {Q : LQ} {C0 : LMem} {j : StJ} {l : StL} {nt : StN} {e : StE} {g : StG} {h : StH} {t : StT} {r r4 n : Nat} {b : Int} {o6 o7 o8 o9 o10 o11 : Option PV}
theorem MxQ.kne {kk k q n m : Nat} {C : LMem} {P : Nat → Nat} {A : Nat → Nat → Int} (h : MxQ kk k C q n m P A) (hkk : kk ≠ k) {i : Nat} (hi : i < n) : q ≠ P i := fun z => by
  obtain ⟨⟨f, h1, -⟩, h3, -⟩ := h
  obtain ⟨g2, g3, -⟩ := h3 i hi
  rw [← z, h1] at g3
  have h9 : kk + 1 = k + 1 := congrArg (fun x : LCel => x.1) g3
  omega
theorem ch_34 (hn : 1 ≤ n ∧ n ≤ 4) (hb4 : 1 ≤ b ∧ b ≤ 4) {M : Mem} {A : Nat → Nat → Int} {i kc : Nat} (hi : i < n) (q : IQ j l (n, b, A) nt e g h t M) (hkc : kc ≤ 370)
    (hN : ∀ (M : Mem) (C : LMem) (kc' : Nat) (P : Nat → Nat) (T A : Nat → Nat → Int) (o6 o7 o8 o9 o10 o11 : Option PV), kc' ≤ kc + 13 → CBq C0 r C → MxQ 3 0 C r4 n n P T → MxF C0 r4 n P → IQ j l (n, b, A) nt e g h t M → DoneR n b (i + 1) A T → L_W_isChain_27 (d + 130) Q M C kc' r (n : Int) b r4 ((i : Int) + 1) o6 o7 o8 o9 o10 o11) :
    ∀ (u k : Nat) (C : LMem) (P : Nat → Nat) (T : Nat → Nat → Int) (rest : Int) (o8 o9 o10 o11 : Option PV), k + u = n → CBq C0 r C → MxQ 3 0 C r4 n n P T → MxF C0 r4 n P → DoneR n b i A T → (∀ x, x < k → 0 ≤ T i x ∧ T i x ≤ b) → 0 ≤ rest → rowS T i k + rest = b → 0 ≤ rowS T i k → (k = n → rest = 0) → L_W_isChain_34 (d + 130) Q M C kc r (n : Int) b r4 (i : Int) rest (k : Int) o8 o9 o10 o11 := by
  intro u
  induction u with
  | zero =>
    intro k C P T rest o8 o9 o10 o11 hk hB hM hF hD hT h0 hs hs0 hz
    obtain rfl : k = n := by omega
    have hr0 := hz rfl
    obtain ⟨x, hr⟩ := hB.1
    refine b_W_isChain_34 ⟨⟨by omega, by omega⟩, ⟨by omega, by omega⟩, fun _ => ⟨by omega, ?_⟩, fun z => absurd (Int.le_refl _) z⟩
    refine s_nextF hr _ ?_
    rintro v1 M1 C1 ⟨rfl, hv1, hr1, hf1⟩
    have hB1 := hB.rnd hf1 hr1
    have hM1 := hM.rndF hf1 hF hB.2.2
    have e1 := Int.emod_nonneg v1 (show (k : Int) ≠ 0 by omega)
    have e2 := Int.emod_lt_of_pos v1 (show 0 < (k : Int) by omega)
    obtain ⟨s, hs9⟩ : ∃ s : Nat, v1 % (k : Int) = (s : Int) := ⟨(v1 % (k : Int)).toNat, by omega⟩
    rw [hs9, Int.toNat_natCast]
    refine ⟨by omega, ⟨by omega, by omega⟩, ⟨by omega, by omega⟩, by unfold lcost; omega, fun q2 hq2 => ?_⟩
    obtain ⟨⟨f, f1, f2⟩, m2, m3⟩ := id hM1
    refine ch_85 hn hb4 (s := s) (kc := kc + 0 + lcost k) hi (by omega) hT (by omega) q hD hF (hB1.2.1.free hq2) (by unfold lcost; omega) (fun M C kc' P T A o6 o7 o8 o9 o10 o11 z1 z2 z3 z4 z5 z6 => hN M C kc' P T A _ _ _ _ _ _ (by unfold lcost at z1; omega) z2 z3 z4 z5 z6) k 0 _ (fun _ => 0) (by omega) (hB1.set (hB1.2.1.free hq2)) (hM1.new hq2) cst_self (fun y hy => ?_) (ne_new f1 hq2) (fun x hx => absurd hx (Nat.not_lt_zero x))
    obtain ⟨g3, g4, g5⟩ := m2 y hy
    exact ne_new g4 hq2
  | succ u ih =>
    intro k C P T rest o8 o9 o10 o11 hk hB hM hF hD hT h0 hs hs0 hz
    obtain ⟨⟨f, f1, f2⟩, m2, m3⟩ := id hM
    have hmod : ((i : Int) + (k : Int)) % (n : Int) = (((i + k) % n : Nat) : Int) := by rw [Int.natCast_emod, Int.natCast_add]
    have hlt : (i + k) % n < n := Nat.mod_lt _ (by omega)
    have step : ∀ (C1 : LMem) (gr : Nat → Int) (K : Nat) (x : Int), K = kc → CBq C0 r C1 → MxQ 3 0 C1 r4 n n P T → C1 (P i) = (1, n, gr) → 0 ≤ x → x ≤ rest → (k = n - 1 → x = rest) → L_W_isChain_55 (d + 130) Q M (cst C1 (P i) (1, n, sr gr k x)) K r (n : Int) b r4 (i : Int) rest (k : Int) o8 o9 o10 o11 := by
      intro C1 gr K x hK hB1 hM1 hg hx0 hx1 hx2
      subst hK
      have hM2 := hM1.set (j := k) (v := x) hi hg (hM1.kne (by decide) hi)
      obtain ⟨⟨f', f1', f2'⟩, m2', m3'⟩ := id hM2
      have eS : rowS (upA T i k x) i (k + 1) = rowS T i k + x := by
        show rowS (upA T i k x) i k + upA T i k x i k = _
        rw [rowS_cg (A := upA T i k x) (B := T) k (fun y hy => by unfold upA; rw [if_neg (fun z => by omega)])]
        unfold upA
        rw [if_pos ⟨rfl, rfl⟩]
      refine b_W_isChain_55 ?_
      simp only [f1', f2' i hi, Int.toNat_natCast, cellAt, cst_self, sr_same, hmod]
      refine ⟨⟨by decide, by decide⟩, ⟨by omega, by omega⟩, trivial, ⟨by omega, by omega⟩, ⟨by omega, by omega⟩, ⟨by omega, by omega⟩, ⟨by omega, by omega⟩, fun _ => ?_, fun z => absurd (by omega) z⟩
      refine ih (k + 1) _ P (upA T i k x) (rest - x) _ o9 o10 o11 (by omega) (hB1.set (hF.2 i hi)) hM2 hF (fun y hy => ?_) (fun y hy => ?_) (by omega) (by rw [eS]; omega) (by rw [eS]; omega) (fun z => by have := hx2 (by omega); omega)
      · obtain ⟨d1, d2⟩ := hD y hy
        refine ⟨fun z hz => ?_, ?_⟩
        · unfold upA
          rw [if_neg (fun w => by omega)]
          exact d1 z hz
        · rw [← d2]
          exact rowS_cg n fun z hz => by unfold upA; rw [if_neg (fun w => by omega)]
      · unfold upA
        by_cases z : y = k
        · rw [if_pos ⟨rfl, z⟩]; omega
        · rw [if_neg (fun w => z w.2)]; exact hT y (by omega)
    refine b_W_isChain_34 ⟨⟨by omega, by omega⟩, ⟨by omega, by omega⟩, fun z => absurd z (by omega), fun _ => ?_⟩
    simp only [f1, f2 i hi, Int.toNat_natCast, cellAt]
    refine ⟨⟨by decide, by decide⟩, ⟨by omega, by omega⟩, ⟨by omega, by omega⟩, fun z => ⟨by omega, ?_⟩, fun z => ?_⟩
    · obtain ⟨x, hr⟩ := hB.1
      refine s_nextF hr _ ?_
      rintro v1 M1 C1 ⟨rfl, hv1, hr1, hf1⟩
      have hB1 := hB.rnd hf1 hr1
      have hM1 := hM.rndF hf1 hF hB.2.2
      obtain ⟨gr, g1, g2⟩ := hM1.2.1 i hi
      have e1 := Int.emod_nonneg v1 (show rest + 1 ≠ 0 by omega)
      have e2 := Int.emod_lt_of_pos v1 (show 0 < rest + 1 by omega)
      simp only [g1, cup_of g1]
      refine ⟨by omega, ⟨by omega, by omega⟩, trivial, ⟨by omega, by omega⟩, ?_⟩
      exact step C1 gr _ _ rfl hB1 hM1 g1 e1 (by omega) (fun w => by omega)
    · obtain ⟨gr, g1, g2⟩ := m2 i hi
      simp only [g1, cup_of g1]
      refine ⟨trivial, ⟨by omega, by omega⟩, ?_⟩
      exact step C gr _ _ rfl hB hM g1 h0 (Int.le_refl _) (fun _ => rfl)
theorem ch_27 (hn : 1 ≤ n ∧ n ≤ 4) (hb4 : 1 ≤ b ∧ b ≤ 4)
    (hN : ∀ (M : Mem) (C : LMem) (kc' : Nat) (P : Nat → Nat) (T A : Nat → Nat → Int) (o6 o7 o8 o9 o10 o11 : Option PV), kc' ≤ 100 → CBq C0 r C → MxQ 3 0 C r4 n n P T → MxF C0 r4 n P → IQ j l (n, b, A) nt e g h t M → DoneR n b n A T → L_W_isChain_27 (d + 130) Q M C kc' r (n : Int) b r4 (n : Int) o6 o7 o8 o9 o10 o11) :
    ∀ (u i : Nat) (M : Mem) (C : LMem) (kc : Nat) (P : Nat → Nat) (T A : Nat → Nat → Int) (o6 o7 o8 o9 o10 o11 : Option PV), i + u = n → kc + 13 * u ≤ 100 → CBq C0 r C → MxQ 3 0 C r4 n n P T → MxF C0 r4 n P → IQ j l (n, b, A) nt e g h t M → DoneR n b i A T → L_W_isChain_27 (d + 130) Q M C kc r (n : Int) b r4 (i : Int) o6 o7 o8 o9 o10 o11 := by
  intro u
  induction u with
  | zero =>
    intro i M C kc P T A o6 o7 o8 o9 o10 o11 hi hkc hB hM hF q hD
    obtain rfl : i = n := by omega
    exact hN M C kc P T A _ _ _ _ _ _ (by omega) hB hM hF q hD
  | succ u ih =>
    intro i M C kc P T A o6 o7 o8 o9 o10 o11 hi hkc hB hM hF q hD
    refine b_W_isChain_27 ⟨⟨by omega, by omega⟩, ⟨by omega, by omega⟩, fun z => absurd z (by omega), fun _ => ?_⟩
    exact ch_34 hn hb4 (kc := kc) (by omega) q (by omega) (fun M C kc' P T A o6 o7 o8 o9 o10 o11 z1 z2 z3 z4 z5 z6 => ih (i + 1) M C kc' P T A _ _ _ _ _ _ (by omega) (by omega) z2 z3 z4 z5 z6) n 0 C P T b _ _ _ _ (by omega) hB hM hF hD (fun x hx => absurd hx (Nat.not_lt_zero x)) (by omega) (by show 0 + b = b; omega) (Int.le_refl 0) (fun z => by omega)
end CHC
