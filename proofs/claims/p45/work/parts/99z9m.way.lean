/-! The way: both sides. -/
def wE (n : Nat) (A : Nat → Nat → Int) (g : Nat) (i j : Nat) : Prop := i < n ∧ j < n ∧ 0 < A i j ∧ j ≠ g
theorem wE.rch {n f g j : Nat} {A : Nat → Nat → Int} (hfg : f ≠ g) : Rch (wE n A g) f j ↔ Rch (cE n A (g : Int)) f j ∧ j ≠ g := by
  constructor
  · intro h
    exact h (fun k => Rch (cE n A (g : Int)) f k ∧ k ≠ g) ⟨.refl f, hfg⟩ fun k l hk e => ⟨hk.1.step ⟨by have := hk.2; omega, e.1, e.2.1, e.2.2.1⟩, e.2.2.2⟩
  · rintro ⟨h, hj⟩
    refine h (fun k => k ≠ g → Rch (wE n A g) f k) (fun _ => .refl f) (fun k l hk e hl => ?_) hj
    have hk' : k ≠ g := by have := e.1; omega
    exact (hk hk').step ⟨e.2.1, e.2.2.1, e.2.2.2, hl⟩
def waySet (n : Nat) (A : Nat → Nat → Int) (f g s : Nat) : Prop := s < 128 ∧ ∀ j, s.testBit j = true ↔ j < n ∧ f ≠ g ∧ Rch (wE n A g) f j
theorem waySet.uniq {n f g s t : Nat} {A : Nat → Nat → Int} (h : waySet n A f g s) (h2 : waySet n A f g t) : s = t := bits_eq fun j => (h.2 j).trans (h2.2 j).symm
theorem waySet.no {n f g s : Nat} {A : Nat → Nat → Int} (h : waySet n A f g s) : s.testBit g = false := by
  cases e : s.testBit g
  · rfl
  · obtain ⟨_, h1, h2⟩ := (h.2 g).mp e
    exact absurd rfl ((wE.rch h1).mp h2).2
theorem s_onTheWay {d : Nat} {M : Mem} {n f g : Nat} {b : Int} {A : Nat → Nat → Int} (hC : CC M n b A) (hO : cOk n b A) (hf : f < n) (hg : g < n) : Post (d + 2) cC_onTheWay [oC, .inl (f : Int), .inl (g : Int)] M (fun v M' => M' = M ∧ ∃ s : Nat, v = (s : Int) ∧ waySet n A f g s) := by
  intro Q hQ
  have h7 := hO.1
  have hb := hO.2.1
  obtain ⟨b1, b2⟩ := bit_one (j := f) (by omega)
  refine e_C_onTheWay (b_C_onTheWay_0 ?_)
  rw [b1]
  have outer : ∀ (h t : Nat), t + h = n → ∀ (s : Nat) (o1 o5 o6 : Option PV), s < 128 → (f ≠ g → s.testBit f = true) → (∀ j, s.testBit j = true → j < n ∧ f ≠ g ∧ Rch (wE n A g) f j) → (closed (wE n A g) s ∨ t + 1 ≤ cnt s n) → L_C_onTheWay_11 (d + 1) Q M o1 (g : Int) (s : Int) (t : Int) o5 o6 := by
    intro h
    induction h with
    | zero =>
      intro t ht s o1 o5 o6 hs hsf snd hcl
      have ht : t = n := by omega
      subst ht
      refine b_C_onTheWay_11 ?_
      rw [hC.1]
      refine ⟨⟨by omega, by omega⟩, ⟨by omega, by omega⟩, fun _ => hQ _ _ ⟨rfl, s, rfl, hs, fun j => ⟨snd j, fun h => ?_⟩⟩, fun z => absurd (Int.le_refl _) z⟩
      have hc : closed (wE t A g) s := by
        rcases hcl with h | h
        · exact h
        · have := cnt_le (s := s) t
          omega
      exact h.2.2 (fun j => s.testBit j = true) (hsf h.2.1) fun k l hk e => hc k l hk e
    | succ h ih =>
      intro t ht s0 o1 o5 o6 hs0 hsf0 snd0 hcl
      refine b_C_onTheWay_11 ?_
      rw [hC.1]
      refine ⟨⟨by omega, by omega⟩, ⟨by omega, by omega⟩, fun z => absurd z (by omega), fun _ => ?_⟩
      have mid : ∀ (e i : Nat), i + e = n → ∀ (s : Nat) (o6 : Option PV), s < 128 → (∀ j, s0.testBit j = true → s.testBit j = true) → (∀ j, s.testBit j = true → j < n ∧ f ≠ g ∧ Rch (wE n A g) f j) → (closed (wE n A g) s0 → s = s0) → (∀ p q, p < i → s0.testBit p = true → wE n A g p q → s.testBit q = true) → L_C_onTheWay_17 (d + 1) Q M o1 (g : Int) (s : Int) (t : Int) (i : Int) o6 := by
        intro e
        induction e with
        | zero =>
          intro i hi s o6 hs hsub snd hclo hall
          have hi : i = n := by omega
          refine b_C_onTheWay_17 ?_
          rw [hC.1]
          refine ⟨⟨by omega, by omega⟩, ⟨by omega, by omega⟩, fun _ => ?_, fun z => absurd (by omega) z⟩
          rw [show (t : Int) + 1 = ((t + 1 : Nat) : Int) by omega]
          refine ih (t + 1) (by omega) s _ _ _ hs (fun z => hsub f (hsf0 z)) snd ?_
          by_cases c : closed (wE n A g) s0
          · rw [hclo c]; exact Or.inl c
          · have hc1 : t + 1 ≤ cnt s0 n := by
              rcases hcl with h | h
              · exact absurd h c
              · exact h
            obtain ⟨p, hp⟩ := Classical.not_forall.mp c
            obtain ⟨q, hp⟩ := Classical.not_forall.mp hp
            obtain ⟨k1, hp⟩ := Classical.not_imp.mp hp
            obtain ⟨k2, k3⟩ := Classical.not_imp.mp hp
            have := cnt_lt hsub k3 (hall p q (by have := k2.1; omega) k1 k2) n k2.2.1
            exact Or.inr (by omega)
        | succ e ihe =>
          intro i hi s o6 hs hsub snd hclo hall
          have inner : ∀ (u j : Nat), j + u = n → ∀ (s : Nat), s < 128 → (∀ j, s0.testBit j = true → s.testBit j = true) → (∀ j, s.testBit j = true → j < n ∧ f ≠ g ∧ Rch (wE n A g) f j) → (closed (wE n A g) s0 → s = s0) → (∀ p q, p < i ∨ (p = i ∧ q < j) → s0.testBit p = true → wE n A g p q → s.testBit q = true) → L_C_onTheWay_23 (d + 1) Q M o1 (g : Int) (s : Int) (t : Int) (i : Int) (j : Int) := by
            intro u
            induction u with
            | zero =>
              intro j hj s hs hsub snd hclo hall
              have hj : j = n := by omega
              refine b_C_onTheWay_23 ?_
              rw [hC.1]
              refine ⟨⟨by omega, by omega⟩, ⟨by omega, by omega⟩, fun _ => ?_, fun z => absurd (by omega) z⟩
              rw [show (i : Int) + 1 = ((i + 1 : Nat) : Int) by omega]
              refine ihe (i + 1) (by omega) s _ hs hsub snd hclo fun p q hp h1 h2 => hall p q ?_ h1 h2
              by_cases e : p = i
              · exact Or.inr ⟨e, by have := h2.2.1; omega⟩
              · exact Or.inl (by omega)
            | succ u ihu =>
              intro j hj s hs hsub snd hclo hall
              obtain ⟨r1, r2, r3⟩ := wra125 i (by omega)
              have skip : (s0.testBit i = true → ¬ wE n A g i j) → L_C_onTheWay_23 (d + 1) Q M o1 (g : Int) (s : Int) (t : Int) (i : Int) ((j : Int) + 1) := fun hno => by
                rw [show (j : Int) + 1 = ((j + 1 : Nat) : Int) by omega]
                refine ihu (j + 1) (by omega) s hs hsub snd hclo fun p q hpq h1 h2 => ?_
                by_cases e : p = i ∧ q = j
                · rw [e.1] at h1
                  rw [e.1, e.2] at h2
                  exact absurd h2 (hno h1)
                · exact hall p q (by omega) h1 h2
              refine b_C_onTheWay_23 ?_
              rw [hC.1]
              refine ⟨⟨by omega, by omega⟩, ⟨by omega, by omega⟩, fun z => absurd z (by omega), fun _ => ?_⟩
              refine (s_isIn (d := d) (s := s) (j := i) hs (by omega)).cal fun v1 M1 hM1 => ?_
              obtain ⟨rfl, ⟨rfl, g3⟩ | ⟨rfl, g3⟩⟩ := hM1
              · refine ⟨⟨by decide, by decide⟩, fun z => absurd z (by decide), fun _ => ⟨⟨by omega, by omega⟩, fun z => skip fun _ h => h.2.2.2 (by omega), fun z => ?_⟩⟩
                have hA := hO.2.2.1 i j (by omega) (by omega)
                obtain ⟨d1, d2⟩ := bit_one (j := j) (by omega)
                obtain ⟨y1, y2⟩ := bit_or hs d2
                rw [Int.toNat_natCast, Int.toNat_natCast, r1, r3, hC.2.2 i j (by omega) (by omega)]
                rw [Int.toNat_natCast] at d1
                rw [d1, y1]
                refine ⟨⟨by omega, by omega⟩, r2, ⟨by omega, by omega⟩, ⟨by omega, by omega⟩, fun z2 => skip fun _ h => by have := h.2.2.1; omega, fun z2 => ⟨⟨by omega, by omega⟩, ?_⟩⟩
                have hE : wE n A g i j := ⟨by omega, by omega, by omega, by omega⟩
                rw [show (j : Int) + 1 = ((j + 1 : Nat) : Int) by omega]
                refine ihu (j + 1) (by omega) (s ||| 2 ^ j) y2 (fun q hq => ?_) (fun q hq => ?_) (fun c => ?_) fun p q hpq h1 h2 => ?_
                · rw [Nat.testBit_or, hsub q hq]; rfl
                · rw [Nat.testBit_or, Bool.or_eq_true, bit_pow, decide_eq_true_iff] at hq
                  rcases hq with hq | rfl
                  · exact snd q hq
                  · exact ⟨by omega, (snd i g3).2.1, (snd i g3).2.2.step hE⟩
                · have e := hclo c
                  rw [e] at g3 ⊢
                  exact or_same (c i j g3 hE)
                · rw [Nat.testBit_or, Bool.or_eq_true, bit_pow, decide_eq_true_iff]
                  by_cases e : p = i ∧ q = j
                  · exact Or.inr e.2.symm
                  · exact Or.inl (hall p q (by omega) h1 h2)
              · refine ⟨⟨by decide, by decide⟩, fun _ => ?_, fun z => absurd rfl z⟩
                rw [show (i : Int) + 1 = ((i + 1 : Nat) : Int) by omega]
                refine ihe (i + 1) (by omega) s _ hs hsub snd hclo fun p q hp h1 h2 => ?_
                by_cases e : p = i
                · have := hsub p h1
                  rw [e, g3] at this
                  cases this
                · exact hall p q (Or.inl (by omega)) h1 h2
          refine b_C_onTheWay_17 ?_
          rw [hC.1]
          exact ⟨⟨by omega, by omega⟩, ⟨by omega, by omega⟩, fun z => absurd z (by omega), fun _ => inner n 0 (by omega) s hs hsub snd hclo fun p q hpq h1 h2 => hall p q (by omega) h1 h2⟩
      exact mid n 0 (by omega) s0 _ hs0 (fun _ h => h) snd0 (fun _ => rfl) fun p q h => absurd h (Nat.not_lt_zero _)
  have z0 : ∀ j, ¬ (0 : Nat).testBit j = true := fun j h => by rw [Nat.zero_testBit] at h; cases h
  refine ⟨⟨by omega, by omega⟩, ⟨by omega, by omega⟩, fun z => ⟨⟨by omega, by omega⟩, ?_⟩, fun z => ?_⟩
  · have hfg : f ≠ g := fun e => z (by omega)
    have hb : (2 ^ f).testBit f = true := by rw [bit_pow]; exact decide_eq_true rfl
    refine outer n 0 (by omega) (2 ^ f) _ _ _ b2 (fun _ => hb) (fun j hj => ?_) (Or.inr ?_)
    · rw [bit_pow, decide_eq_true_iff] at hj
      subst hj
      exact ⟨hf, hfg, .refl _⟩
    · exact cnt_pos hb n hf
  · have hfg : f = g := by omega
    exact outer n 0 (by omega) 0 _ _ _ (by decide) (fun h => absurd hfg h) (fun j hj => absurd hj (z0 j)) (Or.inl fun p q hp => absurd hp (z0 p))
/-- from each on the way there is a way to g -/
def sure (n : Nat) (A : Nat → Nat → Int) (f g : Nat) : Prop := ∀ j, j < n → f ≠ g → Rch (wE n A g) f j → Rch (cE n A (-1)) j g
theorem s_isReachedSurely {d : Nat} {M : Mem} {n f g : Nat} {b : Int} {A : Nat → Nat → Int} (hC : CC M n b A) (hO : cOk n b A) (hL : CL M n (cE n A (-1))) (hf : f < n) (hg : g < n) : Post (d + 3) cC_isReachedSurely [oC, .inl (f : Int), .inl (g : Int)] M (fun v M' => M' = M ∧ ((v = 1 ∧ sure n A f g) ∨ (v = 0 ∧ ¬ sure n A f g))) := by
  intro Q hQ
  have h7 := hO.1
  refine e_C_isReachedSurely (b_C_isReachedSurely_0 ?_)
  refine (s_onTheWay (d := d) hC hO hf hg).cal fun v1 M1 hM1 => ?_
  obtain ⟨rfl, s, rfl, hs⟩ := hM1
  have hs2 := hs.1
  have loop : ∀ (h k : Nat), k + h = n → ∀ o1, (∀ j, j < k → s.testBit j = true → Rch (cE n A (-1)) j g) → L_C_isReachedSurely_7 (d + 2) Q M1 o1 (g : Int) (s : Int) (k : Int) := by
    intro h
    induction h with
    | zero =>
      intro k hk o1 hall
      have hk : k = n := by omega
      refine b_C_isReachedSurely_7 ?_
      rw [hC.1]
      exact ⟨⟨by omega, by omega⟩, ⟨by omega, by omega⟩, fun _ => hQ _ _ ⟨rfl, Or.inl ⟨rfl, fun j h1 h2 h3 => hall j (by omega) ((hs.2 j).mpr ⟨h1, h2, h3⟩)⟩⟩, fun z => absurd (by omega) z⟩
    | succ h ih =>
      intro k hk o1 hall
      have nx : (s.testBit k = true → Rch (cE n A (-1)) k g) → L_C_isReachedSurely_7 (d + 2) Q M1 o1 (g : Int) (s : Int) ((k : Int) + 1) := fun hr => by
        rw [show (k : Int) + 1 = ((k + 1 : Nat) : Int) by omega]
        refine ih (k + 1) (by omega) _ fun j hj h1 => ?_
        by_cases e : j = k
        · rw [e]; rw [e] at h1; exact hr h1
        · exact hall j (by omega) h1
      refine b_C_isReachedSurely_7 ?_
      rw [hC.1]
      refine ⟨⟨by omega, by omega⟩, ⟨by omega, by omega⟩, fun z => absurd z (by omega), fun _ => ?_⟩
      refine (s_isIn (d := d + 1) (s := s) (j := k) hs2 (by omega)).cal fun v1 M2 hM1 => ?_
      obtain ⟨rfl, ⟨rfl, g3⟩ | ⟨rfl, g3⟩⟩ := hM1
      · refine ⟨⟨by decide, by decide⟩, fun z => absurd z (by decide), fun _ => ?_⟩
        refine (s_doesLead (d := d) hL h7.2 (show k < n by omega) hg).cal fun v1 M3 hM1 => ?_
        obtain ⟨rfl, ⟨rfl, g4⟩ | ⟨rfl, g4⟩⟩ := hM1
        · exact ⟨⟨by decide, by decide⟩, fun _ => nx fun _ => g4, fun z => absurd (by decide) z⟩
        · refine ⟨⟨by decide, by decide⟩, fun z => absurd rfl z, fun _ => hQ _ _ ⟨rfl, Or.inr ⟨rfl, fun h => ?_⟩⟩⟩
          obtain ⟨h1, h2, h3⟩ := (hs.2 k).mp g3
          exact g4 (h k h1 h2 h3)
      · exact ⟨⟨by decide, by decide⟩, fun _ => nx fun h => (by rw [g3] at h; cases h), fun z => absurd rfl z⟩
  exact loop n 0 (by omega) _ fun j h => absurd h (Nat.not_lt_zero j)
/-- the mean time -/
def timV (n : Nat) (b : Int) (A : Nat → Nat → Int) (i j : Nat) (v : Rat) : Prop := (i = j ∧ v = 0) ∨ (i ≠ j ∧ ∃ s, waySet n A i j s ∧ v = solQ b A s n (-1) i)
theorem timV.uniq {n : Nat} {b : Int} {A : Nat → Nat → Int} {i j : Nat} {v w : Rat} (h : timV n b A i j v) (h2 : timV n b A i j w) : v = w := by
  rcases h with ⟨a, rfl⟩ | ⟨a, s, hs, rfl⟩ <;> rcases h2 with ⟨a', rfl⟩ | ⟨a', t, ht, rfl⟩
  · rfl
  · exact absurd a a'
  · exact absurd a' a
  · rw [hs.uniq ht]
theorem s_CmeanStepsTo {d : Nat} {M : Mem} {n i j : Nat} {b : Int} {A : Nat → Nat → Int} (hC : CC M n b A) (hO : cOk n b A) (hla : lawful n b A) (hz : AZ M) (hi : i < n) (hj : j < n) (hsu : sure n A i j) : Post (d + 5) cC_meanStepsTo [oC, .inl (i : Int), .inl (j : Int), oB 90] M (fun v M' => Fr solC M M' ∧ AZ M' ∧ ∃ q, timV n b A i j q ∧ CF M' q ∧ v = q.num.sign) := by
  intro Q hQ
  have h7 := hO.1
  refine e_C_meanStepsTo (b_C_meanStepsTo_0 ⟨⟨by omega, by omega⟩, ⟨by omega, by omega⟩, fun z => ?_, fun z => ?_⟩)
  · have hij : i ≠ j := fun e => z (by omega)
    refine (s_onTheWay (d := d + 2) hC hO hi hj).cal fun v1 M1 hM1 => ?_
    obtain ⟨rfl, s, rfl, hs⟩ := hM1
    have c6 := cnt_miss hs.no n hj
    refine (s_Csolve (d := d) (w := j) (q := -1) hC hO (fun a ha => Int.le_of_eq (hla a ha)) hz hs.1 (by omega) hi ((hs.2 i).mpr ⟨hi, hij, .refl i⟩) hs.no (fun a h1 ha => hsu a h1 hij ((hs.2 a).mp ha).2.2) (Or.inl rfl)).cal fun v2 M2 hM2 => ?_
    obtain ⟨f2, z2, g2, e2⟩ := hM2
    exact hQ _ _ ⟨f2, z2, _, Or.inr ⟨hij, s, hs, rfl⟩, g2, e2⟩
  · refine (s_setLongsQ (d := d + 1) (x := 0) (y := 1) (by decide) (by decide) (by decide) (hz 0 (bIr (by decide) rfl)) (hz 2 (bIr (by decide) rfl))).cal fun v2 M2 hM2 => ?_
    obtain ⟨f2, g2, e2⟩ := hM2
    rw [mk01] at g2 e2
    have F := f2.mono (l' := solC) (by simp)
    exact hQ _ _ ⟨F, hz.sol F g2, 0, Or.inl ⟨by omega, rfl⟩, g2, e2⟩
theorem s_QtimeTo {d : Nat} {M : Mem} {n : Nat} {b i j : Int} {A : Nat → Nat → Int} (hC : CC M n b A) (hO : cOk n b A) (hz : AZ M) (hi : R32 i) (hj : R32 j) : PostE (d + 6) cQ_timeTo [oQ, .inl i, .inl j] M (fun r M' => (¬ inSt n i j ∧ r = .inr 4 ∧ M' = M) ∨ (inSt n i j ∧ ¬ (lawful n b A ∧ sure n A i.toNat j.toNat) ∧ r = .inr 5 ∧ Fr chnC M M' ∧ AZ M' ∧ ∀ a, a ≠ 126 → M' a = M a) ∨ (inSt n i j ∧ (lawful n b A ∧ sure n A i.toNat j.toNat) ∧ Fr chnC M M' ∧ AZ M' ∧ ∃ q, timV n b A i.toNat j.toNat q ∧ CF M' q ∧ r = .inl q.num.sign)) := by
  intro Q hQ
  have h7 := hO.1
  refine e_Q_timeTo (b_Q_timeTo_0 ?_)
  refine (s_needStates (d := d + 4) hC.1 h7.2 hi hj).cal fun r1 M1 hM1 => ?_
  rcases hM1 with ⟨h1, rfl, rfl⟩ | ⟨h1, rfl, rfl⟩
  · exact hQ _ _ (Or.inl ⟨h1, rfl, rfl⟩)
  refine (s_needLawful (d := d + 2) hC hO).cal fun r1 M1 hM1 => ?_
  rcases hM1 with ⟨h2, rfl, rfl⟩ | ⟨h2, rfl, rfl⟩
  · exact hQ _ _ (Or.inr (Or.inl ⟨h1, fun h => h2 h.1, rfl, Fr.rfl', hz, fun _ _ => rfl⟩))
  have hq := h1
  unfold inSt at hq
  obtain ⟨I, rfl⟩ : ∃ I : Nat, i = I := ⟨i.toNat, by omega⟩
  obtain ⟨J, rfl⟩ : ∃ J : Nat, j = J := ⟨j.toNat, by omega⟩
  simp only [Int.toNat_natCast] at hQ
  refine (s_findLeads (d := d + 2) hC hO).cal fun v2 M2 hM2 => ?_
  obtain ⟨f2, g2⟩ := hM2
  refine (s_isReachedSurely (d := d + 2) (hC.lead f2) hO g2 (show I < n by omega) (show J < n by omega)).cal fun v3 M3 hM3 => ?_
  obtain ⟨rfl, ⟨rfl, g3⟩ | ⟨rfl, g3⟩⟩ := hM3
  · refine ⟨⟨by decide, by decide⟩, fun _ => ?_, fun z => absurd (by decide) z⟩
    refine (s_CmeanStepsTo (d := d) (hC.lead f2) hO h2 (hz.lead f2) (show I < n by omega) (show J < n by omega) g3).cal fun v3 M3 hM3 => ?_
    obtain ⟨f3, z3, q, q1, q2, q3⟩ := hM3
    exact hQ _ _ (Or.inr (Or.inr ⟨h1, ⟨h2, g3⟩, (f2.mono (by simp)).tr (f3.mono fun a h => List.mem_cons_of_mem _ h), z3, q, q1, q2, by rw [q3]⟩))
  · exact ⟨⟨by decide, by decide⟩, fun z => absurd rfl z, fun _ => hQ _ _ (Or.inr (Or.inl ⟨h1, fun h => g3 h.2, rfl, f2.mono (by simp), hz.lead f2, fun a ha => f2 a (by simpa using ha)⟩))⟩
/-! The reference. -/
def andn (s t : Nat) : Nat := s ^^^ (s &&& t)
theorem andn_bit {s t j : Nat} : (andn s t).testBit j = (s.testBit j && !t.testBit j) := by
  unfold andn
  rw [Nat.testBit_xor, Nat.testBit_and]
  cases s.testBit j <;> cases t.testBit j <;> rfl
theorem bit_hi {s j : Nat} (hs : s < 128) (hj : 7 ≤ j) : s.testBit j = false := Nat.testBit_lt_two_pow (Nat.lt_of_lt_of_le (show s < 2 ^ 7 from hs) (Nat.pow_le_pow_right (by decide) hj))
theorem andn_lt {s t : Nat} (hs : s < 128) : andn s t < 128 := by
  refine Nat.lt_pow_two_of_testBit (n := 7) _ fun j hj => ?_
  rw [andn_bit, bit_hi hs hj]; rfl
theorem zand_not {s t : Nat} (hs : s < 128) (ht : t < 128) : zand (s : Int) (zxor (t : Int) (-1)) = ((andn s t : Nat) : Int) := by
  have hx : t ^^^ 4294967295 < 2 ^ 32 := Nat.xor_lt_two_pow (by omega) (by decide)
  unfold zand zxor
  rw [show ((t : Int) % 4294967296).toNat = t by omega, show ((-1 : Int) % 4294967296).toNat = 4294967295 from rfl, show ((s : Int) % 4294967296).toNat = s by omega]
  have e : (((t ^^^ 4294967295 : Nat) : Int) % 4294967296).toNat = t ^^^ 4294967295 := by omega
  rw [e]
  have : s &&& (t ^^^ 4294967295) = andn s t := by
    apply Nat.eq_of_testBit_eq
    intro j
    rw [andn_bit, Nat.testBit_and, Nat.testBit_xor, show 4294967295 = 2 ^ 32 - 1 from rfl, Nat.testBit_two_pow_sub_one]
    by_cases h : j < 7
    · rw [decide_eq_true (show j < 32 by omega)]
      cases s.testBit j <;> cases t.testBit j <;> rfl
    · rw [bit_hi hs (by omega)]; rfl
  rw [this]