/-! The reference finds what leads to what. -/
def cnt (s : Nat) : Nat → Nat
  | 0 => 0
  | k + 1 => cnt s k + (if s.testBit k then 1 else 0)
theorem cnt_le {s : Nat} : ∀ k, cnt s k ≤ k := by
  intro k
  induction k with
  | zero => exact Nat.le_refl 0
  | succ k ih =>
    show cnt s k + (if s.testBit k then 1 else 0) ≤ k + 1
    split <;> omega
theorem cnt_pos {s i : Nat} (h : s.testBit i = true) : ∀ k, i < k → 1 ≤ cnt s k := by
  intro k
  induction k with
  | zero => intro h; exact absurd h (Nat.not_lt_zero _)
  | succ k ih =>
    intro hk
    show 1 ≤ cnt s k + (if s.testBit k then 1 else 0)
    by_cases e : i = k
    · rw [← e, if_pos h]; omega
    · have := ih (by omega)
      omega
theorem cnt_mono {s t : Nat} (h : ∀ j, s.testBit j = true → t.testBit j = true) : ∀ k, cnt s k ≤ cnt t k := by
  intro k
  induction k with
  | zero => exact Nat.le_refl 0
  | succ k ih =>
    show cnt s k + (if s.testBit k then 1 else 0) ≤ cnt t k + (if t.testBit k then 1 else 0)
    by_cases e : s.testBit k = true
    · rw [if_pos e, if_pos (h k e)]; omega
    · rw [if_neg e]; omega
theorem cnt_lt {s t q : Nat} (h : ∀ j, s.testBit j = true → t.testBit j = true) (h1 : ¬ s.testBit q = true) (h2 : t.testBit q = true) : ∀ k, q < k → cnt s k + 1 ≤ cnt t k := by
  intro k
  induction k with
  | zero => intro h; exact absurd h (Nat.not_lt_zero _)
  | succ k ih =>
    intro hk
    show cnt s k + (if s.testBit k then 1 else 0) + 1 ≤ cnt t k + (if t.testBit k then 1 else 0)
    by_cases e : q = k
    · rw [← e, if_neg h1, if_pos h2]
      have := cnt_mono h q
      omega
    · have := ih (by omega)
      by_cases e2 : s.testBit k = true
      · rw [if_pos e2, if_pos (h k e2)]; omega
      · rw [if_neg e2]; omega
def closed (E : Nat → Nat → Prop) (s : Nat) : Prop := ∀ p q, s.testBit p = true → E p q → s.testBit q = true
theorem or_same {s q : Nat} (h : s.testBit q = true) : s ||| 2 ^ q = s := by
  apply Nat.eq_of_testBit_eq
  intro j
  rw [Nat.testBit_or, bit_pow]
  by_cases e : q = j
  · rw [← e, h]; rfl
  · rw [decide_eq_false e, Bool.or_false]
theorem s_leads {d : Nat} {M : Mem} {n i : Nat} {b w : Int} {A : Nat → Nat → Int} (hC : RC M n b A) (hO : cOk n b A) (hi : i < n) (hw : R32 w) : Post (d + 1) cM_leads [oM, .inl (i : Int), .inl w] M (fun v M' => M' = M ∧ ∃ s : Nat, v = (s : Int) ∧ isSet n (cE n A w) i s) := by
  intro Q hQ
  obtain ⟨c1, c2, c3⟩ := hC
  have h7 := hO.1
  have hb := hO.2.1
  have en : (n : Int) * (n : Int) = ((n * n : Nat) : Int) := by push_cast; rfl
  have hnn : n * n ≤ 7 * 7 := Nat.mul_le_mul h7.2 h7.2
  have hA := hO.2.2.1
  obtain ⟨b1, b2⟩ := bit_one (j := i) (by omega)
  refine e_M_leads (b_M_leads_0 ⟨⟨by omega, by omega⟩, ?_⟩)
  rw [b1]
  have outer : ∀ (f t : Nat), t + f = n → ∀ (s : Nat) (o1 o5 o6 o7 : Option PV), s < 128 → s.testBit i = true → (∀ j, s.testBit j = true → j < n ∧ Rch (cE n A w) i j) → (closed (cE n A w) s ∨ t + 1 ≤ cnt s n) → L_M_leads_6 d Q M o1 w (s : Int) (t : Int) o5 o6 o7 := by
    intro f
    induction f with
    | zero =>
      intro t ht s o1 o5 o6 o7 hs hsi snd hcl
      have ht : t = n := by omega
      subst ht
      refine b_M_leads_6 ?_
      rw [c1]
      refine ⟨⟨by omega, by omega⟩, ⟨by omega, by omega⟩, fun _ => hQ _ _ ⟨rfl, s, rfl, hs, fun j => ⟨snd j, fun h => ?_⟩⟩, fun z => absurd (Int.le_refl _) z⟩
      have hc : closed (cE t A w) s := by
        rcases hcl with h | h
        · exact h
        · have := cnt_le (s := s) t
          omega
      exact h.2 (fun j => s.testBit j = true) hsi fun k l hk e => hc k l hk e
    | succ f ih =>
      intro t ht s0 o1 o5 o6 o7 hs hsi snd hcl
      refine b_M_leads_6 ?_
      rw [c1]
      refine ⟨⟨by omega, by omega⟩, ⟨by omega, by omega⟩, fun z => absurd z (by omega), fun _ => ?_⟩
      have inner : ∀ (g m : Nat), m + g = n * n → ∀ (s : Nat) (o6 o7 : Option PV), s < 128 → (∀ j, s0.testBit j = true → s.testBit j = true) → (∀ j, s.testBit j = true → j < n ∧ Rch (cE n A w) i j) → (closed (cE n A w) s0 → s = s0) → (∀ p q, q < n → p * n + q < m → s0.testBit p = true → cE n A w p q → s.testBit q = true) → L_M_leads_12 d Q M o1 w (s : Int) (t : Int) (m : Int) o6 o7 := by
        intro g
        induction g with
        | zero =>
          intro m hm s o6 o7 hs hsub hsnd hclo hall
          have hm : m = n * n := by omega
          refine b_M_leads_12 ?_
          rw [c1, en]
          refine ⟨⟨by omega, by omega⟩, ⟨by omega, by omega⟩, fun _ => ?_, fun z => absurd (by omega) z⟩
          rw [show (t : Int) + 1 = ((t + 1 : Nat) : Int) by omega]
          refine ih (t + 1) (by omega) s _ _ _ _ hs (hsub i hsi) hsnd ?_
          by_cases c : closed (cE n A w) s0
          · rw [hclo c]; exact Or.inl c
          · have hc1 : t + 1 ≤ cnt s0 n := by
              rcases hcl with h | h
              · exact absurd h c
              · exact h
            obtain ⟨p, hp⟩ := Classical.not_forall.mp c
            obtain ⟨q, hp⟩ := Classical.not_forall.mp hp
            obtain ⟨k1, hp⟩ := Classical.not_imp.mp hp
            obtain ⟨k2, k3⟩ := Classical.not_imp.mp hp
            have hpn := k2.2.1
            have hqn := k2.2.2.1
            have hlt : p * n + q < m := by
              have := Nat.mul_le_mul_right n (show p + 1 ≤ n by omega)
              rw [Nat.add_mul, Nat.one_mul] at this
              omega
            have := cnt_lt hsub k3 (hall p q hqn hlt k1 k2) n hqn
            exact Or.inr (by omega)
        | succ g ihg =>
          intro m hm s o6 o7 hs hsub hsnd hclo hall
          refine b_M_leads_12 ?_
          rw [c1, en]
          have hp : m / n < n := Nat.div_lt_of_lt_mul (by omega)
          have hq : m % n < n := Nat.mod_lt _ (by omega)
          have hmm : m / n * n + m % n = m := by rw [Nat.mul_comm]; exact Nat.div_add_mod m n
          rw [show (m : Int) / (n : Int) = ((m / n : Nat) : Int) from rfl, show (m : Int) % (n : Int) = ((m % n : Nat) : Int) from rfl]
          generalize m / n = p at *
          generalize m % n = q at *
          have un : ∀ p' q', q' < n → p' * n + q' < m + 1 → p' * n + q' < m ∨ (p' = p ∧ q' = q) := by
            intro p' q' hq' hlt
            by_cases e : p' * n + q' < m
            · exact Or.inl e
            · refine Or.inr ?_
              have e2 : p' * n + q' = p * n + q := by omega
              have e3 : p' = p := by
                have a1 : (p' * n + q') / n = p' := by rw [Nat.mul_comm, Nat.mul_add_div (by omega), Nat.div_eq_of_lt hq', Nat.add_zero]
                have a2 : (p * n + q) / n = p := by rw [Nat.mul_comm, Nat.mul_add_div (by omega), Nat.div_eq_of_lt hq, Nat.add_zero]
                rw [← a1, ← a2, e2]
              refine ⟨e3, ?_⟩
              rw [e3] at e2
              omega
          rw [bit_and hs (by omega), show (7 * (p : Int) + (q : Int)).toNat = 7 * p + q by omega, c3 p q (by omega) (by omega)]
          obtain ⟨d1, d2⟩ := bit_one (j := q) (by omega)
          rw [d1]
          obtain ⟨z1, z2⟩ := bit_or (s := s) (t := 0) hs (by decide)
          rw [show ((0 : Nat) : Int) = 0 from rfl, Nat.or_zero] at z1
          obtain ⟨y1, y2⟩ := bit_or hs d2
          rw [z1, y1, show (m : Int) + 1 = ((m + 1 : Nat) : Int) by omega]
          have skip : (s.testBit p = true → ¬ cE n A w p q) → ∀ o6 o7, L_M_leads_12 d Q M o1 w (s : Int) (t : Int) ((m + 1 : Nat) : Int) o6 o7 := by
            intro hno o6 o7
            refine ihg (m + 1) (by omega) s o6 o7 hs hsub hsnd hclo fun p' q' hq' hlt h1 h2 => ?_
            rcases un p' q' hq' hlt with h | ⟨rfl, rfl⟩
            · exact hall p' q' hq' h h1 h2
            · exact absurd h2 (hno (hsub p' h1))
          have aA := hA p q (by omega) (by omega)
          refine ⟨⟨by omega, by omega⟩, ⟨by omega, by omega⟩, fun z => absurd z (by omega), fun _ => ⟨⟨by omega, by omega⟩, ⟨by omega, by omega⟩, ⟨by omega, by omega⟩, ⟨by omega, by omega⟩, by split <;> exact ⟨by decide, by decide⟩, fun z => ?_, fun z => ⟨⟨by omega, by omega⟩, hw, fun z2 => ?_, fun z2 => ⟨⟨by omega, by omega⟩, ⟨by omega, by omega⟩, fun z3 => ?_, fun z3 => ⟨⟨by omega, by omega⟩, ?_⟩⟩⟩⟩⟩
          · refine skip (fun hb => ?_) _ _
            rw [if_pos hb] at z
            exact absurd rfl z
          · exact skip (fun _ h => h.1 z2) _ _
          · exact skip (fun _ h => by have := h.2.2.2; omega) _ _
          · have hb : s.testBit p = true := by
              cases h : s.testBit p
              · rw [h] at z; exact absurd (fun h => by cases h) z
              · rfl
            have hE : cE n A w p q := ⟨z2, hp, hq, by omega⟩
            refine ihg (m + 1) (by omega) (s ||| 2 ^ q) _ _ y2 (fun j hj => ?_) (fun j hj => ?_) (fun c => ?_) fun p' q' hq' hlt h1 h2 => ?_
            · rw [Nat.testBit_or, hsub j hj]; rfl
            · rw [Nat.testBit_or, Bool.or_eq_true, bit_pow, decide_eq_true_iff] at hj
              rcases hj with hj | rfl
              · exact hsnd j hj
              · exact ⟨hq, .step (hsnd p hb).2 hE⟩
            · have e := hclo c
              rw [e] at hb ⊢
              exact or_same (c p q hb hE)
            · rw [Nat.testBit_or, Bool.or_eq_true, bit_pow, decide_eq_true_iff]
              rcases un p' q' hq' hlt with h | ⟨rfl, rfl⟩
              · exact Or.inl (hall p' q' hq' h h1 h2)
              · exact Or.inr rfl
      exact inner (n * n) 0 (by omega) s0 _ _ hs (fun _ h => h) snd (fun _ => rfl) fun p q _ h => absurd h (Nat.not_lt_zero _)
  refine outer n 0 (by omega) (2 ^ i) _ _ _ _ b2 ?_ (fun j hj => ?_) (Or.inr ?_)
  · rw [bit_pow]; exact decide_eq_true rfl
  · rw [bit_pow, decide_eq_true_iff] at hj
    subst hj
    exact ⟨hi, .refl _⟩
  · exact cnt_pos (i := i) (by rw [bit_pow]; exact decide_eq_true rfl) n hi
