/-! Nets: the reference finds what leads to what. -/
theorem s_leadsInNet {d : Nat} {M : Mem} {n i : Nat} {C S : Nat → Int} {A : Nat → Nat → Int} (hN : NR M n C S A) (hOn : nOk n C S A) (hi : i < n) : Post (d + 1) cM_leadsInNet [oM, .inl (i : Int)] M (fun v M' => M' = M ∧ ∃ s : Nat, v = (s : Int) ∧ isSet n (cE n A (-1)) i s) := by
  intro Q hQ
  have c1 := hN.1
  have c3 := hN.2.2.2
  have h4 := hOn.1
  have hO := hOn.2.1
  have h7 := hO.1
  have hb := hO.2.1
  have en : (n : Int) * (n : Int) = ((n * n : Nat) : Int) := by push_cast; rfl
  have hnn : n * n ≤ 7 * 7 := Nat.mul_le_mul h7.2 h7.2
  have hA := hO.2.2.1
  obtain ⟨b1, b2⟩ := bit_one (j := i) (by omega)
  refine e_M_leadsInNet (b_M_leadsInNet_0 ⟨⟨by omega, by omega⟩, ?_⟩)
  rw [b1]
  have outer : ∀ (f t : Nat), t + f = n → ∀ (s : Nat) (o1 o5 o6 o7 : Option PV), s < 128 → s.testBit i = true → (∀ j, s.testBit j = true → j < n ∧ Rch (cE n A (-1)) i j) → (closed (cE n A (-1)) s ∨ t + 1 ≤ cnt s n) → L_M_leadsInNet_6 d Q M o1 (s : Int) (t : Int) o5 o6 o7 := by
    intro f
    induction f with
    | zero =>
      intro t ht s o1 o5 o6 o7 hs hsi snd hcl
      have ht : t = n := by omega
      subst ht
      refine b_M_leadsInNet_6 ?_
      rw [c1]
      refine ⟨⟨by omega, by omega⟩, ⟨by omega, by omega⟩, fun _ => hQ _ _ ⟨rfl, s, rfl, hs, fun j => ⟨snd j, fun h => ?_⟩⟩, fun z => absurd (Int.le_refl _) z⟩
      have hc : closed (cE t A (-1)) s := by
        rcases hcl with h | h
        · exact h
        · have := cnt_le (s := s) t
          omega
      exact h.2 (fun j => s.testBit j = true) hsi fun k l hk e => hc k l hk e
    | succ f ih =>
      intro t ht s0 o1 o5 o6 o7 hs hsi snd hcl
      refine b_M_leadsInNet_6 ?_
      rw [c1]
      refine ⟨⟨by omega, by omega⟩, ⟨by omega, by omega⟩, fun z => absurd z (by omega), fun _ => ?_⟩
      have inner : ∀ (g m : Nat), m + g = n * n → ∀ (s : Nat) (o1 o6 o7 : Option PV), s < 128 → (∀ j, s0.testBit j = true → s.testBit j = true) → (∀ j, s.testBit j = true → j < n ∧ Rch (cE n A (-1)) i j) → (closed (cE n A (-1)) s0 → s = s0) → (∀ p q, q < n → p * n + q < m → s0.testBit p = true → cE n A (-1) p q → s.testBit q = true) → L_M_leadsInNet_12 d Q M o1 (s : Int) (t : Int) (m : Int) o6 o7 := by
        intro g
        induction g with
        | zero =>
          intro m hm s o1 o6 o7 hs hsub hsnd hclo hall
          have hm : m = n * n := by omega
          refine b_M_leadsInNet_12 ?_
          rw [c1, en]
          refine ⟨⟨by omega, by omega⟩, ⟨by omega, by omega⟩, fun _ => ?_, fun z => absurd (by omega) z⟩
          rw [show (t : Int) + 1 = ((t + 1 : Nat) : Int) by omega]
          refine ih (t + 1) (by omega) s _ _ _ _ hs (hsub i hsi) hsnd ?_
          by_cases c : closed (cE n A (-1)) s0
          · rw [hclo c]; exact Or.inl c
          · have hc1 : t + 1 ≤ cnt s0 n := by
              rcases hcl with h | h
              · exact absurd h c
              · exact h
            obtain ⟨p, hp⟩ := Classical.not_forall.mp c
            obtain ⟨q, hp⟩ := Classical.not_forall.mp hp
            obtain ⟨k1, hp⟩ := Classical.not_imp.mp hp
            obtain ⟨k2, k3⟩ := Classical.not_imp.mp hp
            have hpn := k2.2.1
            have hqn := k2.2.2.1
            have hlt : p * n + q < m := by
              have := Nat.mul_le_mul_right n (show p + 1 ≤ n by omega)
              rw [Nat.add_mul, Nat.one_mul] at this
              omega
            have := cnt_lt hsub k3 (hall p q hqn hlt k1 k2) n hqn
            exact Or.inr (by omega)
        | succ g ihg =>
          intro m hm s o1 o6 o7 hs hsub hsnd hclo hall
          refine b_M_leadsInNet_12 ?_
          rw [c1, en]
          have hp : m / n < n := Nat.div_lt_of_lt_mul (by omega)
          have hq : m % n < n := Nat.mod_lt _ (by omega)
          have hmm : m / n * n + m % n = m := by rw [Nat.mul_comm]; exact Nat.div_add_mod m n
          rw [show (m : Int) / (n : Int) = ((m / n : Nat) : Int) from rfl, show (m : Int) % (n : Int) = ((m % n : Nat) : Int) from rfl]
          generalize m / n = p at *
          generalize m % n = q at *
          have un : ∀ p' q', q' < n → p' * n + q' < m + 1 → p' * n + q' < m ∨ (p' = p ∧ q' = q) := by
            intro p' q' hq' hlt
            by_cases e : p' * n + q' < m
            · exact Or.inl e
            · refine Or.inr ?_
              have e2 : p' * n + q' = p * n + q := by omega
              have e3 : p' = p := by
                have a1 : (p' * n + q') / n = p' := by rw [Nat.mul_comm, Nat.mul_add_div (by omega), Nat.div_eq_of_lt hq', Nat.add_zero]
                have a2 : (p * n + q) / n = p := by rw [Nat.mul_comm, Nat.mul_add_div (by omega), Nat.div_eq_of_lt hq, Nat.add_zero]
                rw [← a1, ← a2, e2]
              refine ⟨e3, ?_⟩
              rw [e3] at e2
              omega
          rw [bit_and hs (by omega), show (4 * (p : Int) + (q : Int)).toNat = 4 * p + q by omega, c3 p q (by omega) (by omega)]
          obtain ⟨d1, d2⟩ := bit_one (j := q) (by omega)
          rw [d1]
          obtain ⟨z1, z2⟩ := bit_or (s := s) (t := 0) hs (by decide)
          rw [show ((0 : Nat) : Int) = 0 from rfl, Nat.or_zero] at z1
          obtain ⟨y1, y2⟩ := bit_or hs d2
          rw [z1, y1, show (m : Int) + 1 = ((m + 1 : Nat) : Int) by omega]
          have skip : (s.testBit p = true → ¬ cE n A (-1) p q) → ∀ o1 o6 o7, L_M_leadsInNet_12 d Q M o1 (s : Int) (t : Int) ((m + 1 : Nat) : Int) o6 o7 := by
            intro hno o1 o6 o7
            refine ihg (m + 1) (by omega) s o1 o6 o7 hs hsub hsnd hclo fun p' q' hq' hlt h1 h2 => ?_
            rcases un p' q' hq' hlt with h | ⟨rfl, rfl⟩
            · exact hall p' q' hq' h h1 h2
            · exact absurd h2 (hno (hsub p' h1))
          have aA := hA p q (by omega) (by omega)
          refine ⟨⟨by omega, by omega⟩, ⟨by omega, by omega⟩, fun z => absurd z (by omega), fun _ => ⟨⟨by omega, by omega⟩, ⟨by omega, by omega⟩, ⟨by omega, by omega⟩, ⟨by omega, by omega⟩, by split <;> exact ⟨by decide, by decide⟩, fun z => ?_, fun z => ⟨⟨by omega, by omega⟩, ⟨by omega, by omega⟩, fun z3 => ?_, fun z3 => ⟨⟨by omega, by omega⟩, ?_⟩⟩⟩⟩
          · refine skip (fun hb => ?_) _ _ _
            rw [if_pos hb] at z
            exact absurd rfl z
          · exact skip (fun _ h => by have := h.2.2.2; omega) _ _ _
          · have hb : s.testBit p = true := by
              cases h : s.testBit p
              · rw [h] at z; exact absurd (fun h => by cases h) z
              · rfl
            have hE : cE n A (-1) p q := ⟨by omega, hp, hq, by omega⟩
            refine ihg (m + 1) (by omega) (s ||| 2 ^ q) _ _ _ y2 (fun j hj => ?_) (fun j hj => ?_) (fun c => ?_) fun p' q' hq' hlt h1 h2 => ?_
            · rw [Nat.testBit_or, hsub j hj]; rfl
            · rw [Nat.testBit_or, Bool.or_eq_true, bit_pow, decide_eq_true_iff] at hj
              rcases hj with hj | rfl
              · exact hsnd j hj
              · exact ⟨hq, .step (hsnd p hb).2 hE⟩
            · have e := hclo c
              rw [e] at hb ⊢
              exact or_same (c p q hb hE)
            · rw [Nat.testBit_or, Bool.or_eq_true, bit_pow, decide_eq_true_iff]
              rcases un p' q' hq' hlt with h | ⟨rfl, rfl⟩
              · exact Or.inl (hall p' q' hq' h h1 h2)
              · exact Or.inr rfl
      exact inner (n * n) 0 (by omega) s0 _ _ _ hs (fun _ h => h) snd (fun _ => rfl) fun p q _ h => absurd h (Nat.not_lt_zero _)
  refine outer n 0 (by omega) (2 ^ i) _ _ _ _ b2 ?_ (fun j hj => ?_) (Or.inr ?_)
  · rw [bit_pow]; exact decide_eq_true rfl
  · rw [bit_pow, decide_eq_true_iff] at hj
    subst hj
    exact ⟨hi, .refl _⟩
  · exact cnt_pos (i := i) (by rw [bit_pow]; exact decide_eq_true rfl) n hi
theorem s_areRates {d : Nat} {M : Mem} {n : Nat} {C S : Nat → Int} {A : Nat → Nat → Int} (hN : NR M n C S A) (hO : nOk n C S A) : Post (d + 2) cM_areRates [oM] M (fun v M' => M' = M ∧ ((v = 1 ∧ ratesOk n A) ∨ (v = 0 ∧ ¬ ratesOk n A))) := by
  intro Q hQ
  have h4 := hO.1
  refine e_M_areRates (b_M_areRates_0 ?_)
  have outer : ∀ (f k : Nat), k + f = n → ∀ (v : Int) o3 o4 o5, ((v = 1 ∧ ∀ i, i < k → ∃ j, j < n ∧ Rch (cE n A (-1)) i j ∧ rowS A j n < 100) ∨ (v = 0 ∧ ¬ ratesOk n A)) → L_M_areRates_4 (d + 1) Q M v (k : Int) o3 o4 o5 := by
    intro f
    induction f with
    | zero =>
      intro k hk v o3 o4 o5 hv
      have hk : k = n := by omega
      subst hk
      refine b_M_areRates_4 ?_
      rw [hN.1]
      refine ⟨⟨by omega, by omega⟩, ⟨by omega, by omega⟩, fun _ => ?_, fun z => absurd (Int.le_refl _) z⟩
      rcases hv with ⟨rfl, h⟩ | ⟨rfl, h⟩
      · exact ⟨Or.inr rfl, hQ _ _ ⟨rfl, Or.inl ⟨rfl, h⟩⟩⟩
      · exact ⟨Or.inl rfl, hQ _ _ ⟨rfl, Or.inr ⟨rfl, h⟩⟩⟩
    | succ f ih =>
      intro k hk v o3 o4 o5 hv
      have rv : v = 0 ∨ v = 1 := by
        rcases hv with ⟨h, _⟩ | ⟨h, _⟩ <;> omega
      refine b_M_areRates_4 ?_
      rw [hN.1]
      refine ⟨⟨by omega, by omega⟩, ⟨by omega, by omega⟩, fun z => absurd z (by omega), fun _ => ?_⟩
      refine (s_leadsInNet (d := d) hN hO (show k < n by omega)).cal fun v1 M1 hM1 => ?_
      obtain ⟨rfl, s, rfl, hs⟩ := hM1
      have s2 := hs.1
      have inner : ∀ (g m : Nat), m + g = n → ∀ w : Int, ((w = 1 ∧ ∃ j, j < n ∧ Rch (cE n A (-1)) k j ∧ rowS A j n < 100) ∨ (w = 0 ∧ ∀ j, j < m → ¬ (Rch (cE n A (-1)) k j ∧ rowS A j n < 100))) → L_M_areRates_16 (d + 1) Q M1 v (k : Int) (s : Int) w (m : Int) := by
        intro g
        induction g with
        | zero =>
          intro m hm w hw
          have hm : m = n := by omega
          subst hm
          refine b_M_areRates_16 ?_
          rw [hN.1, show (k : Int) + 1 = ((k + 1 : Nat) : Int) by omega]
          refine ⟨⟨by omega, by omega⟩, ⟨by omega, by omega⟩, fun _ => ⟨⟨by omega, by omega⟩, fun z => ?_, fun z => ?_⟩, fun z => absurd (Int.le_refl _) z⟩
          · refine ih (k + 1) (by omega) 0 _ _ _ (Or.inr ⟨rfl, ?_⟩)
            rcases hv with ⟨h, _⟩ | ⟨_, h⟩
            · omega
            · exact h
          · have v1 : v = 1 := rv.resolve_left z
            have hv1 : ∀ i, i < k → ∃ j, j < m ∧ Rch (cE m A (-1)) i j ∧ rowS A j m < 100 := by
              rcases hv with ⟨_, h⟩ | ⟨h, _⟩
              · exact h
              · omega
            rcases hw with ⟨rfl, h⟩ | ⟨rfl, h⟩
            · refine ⟨⟨by decide, by decide⟩, fun z => absurd z (by decide), fun _ => ih (k + 1) (by omega) 1 _ _ _ (Or.inl ⟨rfl, fun i hi => ?_⟩)⟩
              by_cases e : i = k
              · rw [e]; exact h
              · exact hv1 i (by omega)
            · refine ⟨⟨by decide, by decide⟩, fun _ => ih (k + 1) (by omega) 0 _ _ _ (Or.inr ⟨rfl, fun hr => ?_⟩), fun z => absurd rfl z⟩
              obtain ⟨j, j1, j2⟩ := hr k (by omega)
              exact h j j1 j2
        | succ g ihg =>
          intro m hm w hw
          have hr := hO.2.2.1 m (by omega)
          have hr0 := (rowS_r hO.2.1 (i := m) (by omega) n (by omega)).1
          refine b_M_areRates_16 ?_
          rw [hN.1, show (m : Int) + 1 = ((m + 1 : Nat) : Int) by omega]
          refine ⟨⟨by omega, by omega⟩, ⟨by omega, by omega⟩, fun z => absurd z (by omega), fun _ => ?_⟩
          rcases hw with ⟨rfl, h⟩ | ⟨rfl, h⟩
          · exact ⟨⟨by decide, by decide⟩, fun _ => ihg (m + 1) (by omega) 1 (Or.inl ⟨rfl, h⟩), fun z => absurd (by decide) z⟩
          · have no : ¬ (Rch (cE n A (-1)) k m ∧ rowS A m n < 100) → L_M_areRates_16 (d + 1) Q M1 v (k : Int) (s : Int) 0 ((m + 1 : Nat) : Int) := fun hn => ihg (m + 1) (by omega) 0 (Or.inr ⟨rfl, fun j hj => by
              by_cases e : j = m
              · rw [e]; exact hn
              · exact h j (by omega)⟩)
            refine ⟨⟨by decide, by decide⟩, fun z => absurd rfl z, fun _ => ?_⟩
            rw [bit_and s2 (show m < 32 by omega)]
            refine ⟨⟨by omega, by omega⟩, ⟨by omega, by omega⟩, by split <;> exact ⟨by decide, by decide⟩, fun z => ?_, fun z => ?_⟩
            · refine no fun hh => z ?_
              rw [if_pos ((hs.2 m).mpr ⟨by omega, hh.1⟩)]
            · have hb : s.testBit m = true := by
                cases h : s.testBit m
                · rw [h] at z; exact absurd (fun h => by cases h) z
                · rfl
              refine (s_percents (d := d) (i := m) hN hO (by omega)).cal fun v2 M2 hM2 => ?_
              obtain ⟨e2, rfl⟩ := hM2
              subst e2
              refine ⟨⟨by omega, by omega⟩, fun z2 => no fun hh => by omega, fun z2 => ihg (m + 1) (by omega) 1 (Or.inl ⟨rfl, m, by omega, ((hs.2 m).mp hb).2, by omega⟩)⟩
      exact inner n 0 (by omega) 0 (Or.inr ⟨rfl, fun j h => absurd h (Nat.not_lt_zero j)⟩)
  exact outer n 0 (by omega) 1 _ _ _ (Or.inl ⟨rfl, fun i h => absurd h (Nat.not_lt_zero i)⟩)
theorem s_MisClosed {d : Nat} {M : Mem} {n : Nat} {C S : Nat → Int} {A : Nat → Nat → Int} (hN : NR M n C S A) (hO : nOk n C S A) : Post (d + 2) cM_isClosed [oM] M (fun v M' => M' = M ∧ ((v = 1 ∧ closedOk n C A) ∨ (v = 0 ∧ ¬ closedOk n C A))) := by
  intro Q hQ
  have h4 := hO.1
  refine e_M_isClosed (b_M_isClosed_0 ?_)
  have loop : ∀ (f k : Nat), k + f = n → ∀ v : Int, ((v = 1 ∧ ∀ i, i < k → C i = 0 ∧ rowS A i n = 100 ∧ ∀ j, j < n → Rch (cE n A (-1)) i j) ∨ (v = 0 ∧ ¬ closedOk n C A)) → L_M_isClosed_4 (d + 1) Q M v (k : Int) := by
    intro f
    induction f with
    | zero =>
      intro k hk v hv
      have hk : k = n := by omega
      subst hk
      refine b_M_isClosed_4 ?_
      rw [hN.1]
      refine ⟨⟨by omega, by omega⟩, ⟨by omega, by omega⟩, fun _ => ?_, fun z => absurd (Int.le_refl _) z⟩
      rcases hv with ⟨rfl, h⟩ | ⟨rfl, h⟩
      · exact ⟨Or.inr rfl, hQ _ _ ⟨rfl, Or.inl ⟨rfl, h⟩⟩⟩
      · exact ⟨Or.inl rfl, hQ _ _ ⟨rfl, Or.inr ⟨rfl, h⟩⟩⟩
    | succ f ih =>
      intro k hk v hv
      have hc := hO.2.2.2.1 k (by omega)
      have hr := hO.2.2.1 k (by omega)
      have hr0 := (rowS_r hO.2.1 (i := k) (by omega) n (by omega)).1
      refine b_M_isClosed_4 ?_
      rw [hN.1, show (k : Int) + 1 = ((k + 1 : Nat) : Int) by omega]
      have no : ¬ closedOk n C A → L_M_isClosed_4 (d + 1) Q M 0 ((k + 1 : Nat) : Int) := fun h => ih (k + 1) (by omega) 0 (Or.inr ⟨rfl, h⟩)
      refine ⟨⟨by omega, by omega⟩, ⟨by omega, by omega⟩, fun z => absurd z (by omega), fun _ => ?_⟩
      rcases hv with ⟨rfl, hall⟩ | ⟨rfl, h⟩
      · rw [Int.toNat_natCast, hN.2.1 k (by omega)]
        refine ⟨⟨by decide, by decide⟩, fun z => absurd z (by decide), fun _ => ⟨⟨by omega, by omega⟩, ⟨by omega, by omega⟩, fun z => no fun h => z (h k (by omega)).1, fun z => ?_⟩⟩
        refine (s_percents (d := d) (i := k) hN hO (by omega)).cal fun v2 M2 hM2 => ?_
        obtain ⟨e2, rfl⟩ := hM2
        subst e2
        refine ⟨⟨by omega, by omega⟩, fun z2 => no fun h => z2 (h k (by omega)).2.1, fun z2 => ?_⟩
        refine (s_leadsInNet (d := d) hN hO (show k < n by omega)).cal fun v3 M3 hM3 => ?_
        obtain ⟨rfl, s, rfl, hs⟩ := hM3
        have s2 := hs.1
        have pr := pow_r (n := n) (by omega)
        rw [hN.1, Int.toNat_natCast]
        refine ⟨⟨by omega, by omega⟩, ⟨by omega, by omega⟩, ⟨by omega, by omega⟩, fun z3 => no fun h => z3 ((set_full hs (by omega)).mpr (h k (by omega)).2.2), fun z3 => ih (k + 1) (by omega) 1 (Or.inl ⟨rfl, fun i hi => ?_⟩)⟩
        by_cases e : i = k
        · subst e
          exact ⟨Classical.not_not.mp z, Classical.not_not.mp z2, (set_full hs (by omega)).mp (Classical.not_not.mp z3)⟩
        · exact hall i (by omega)
      · exact ⟨⟨by decide, by decide⟩, fun _ => no h, fun z => absurd rfl z⟩
  exact loop n 0 (by omega) 1 (Or.inl ⟨rfl, fun i h => absurd h (Nat.not_lt_zero i)⟩)
