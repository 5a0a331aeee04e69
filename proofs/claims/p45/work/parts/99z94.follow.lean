/-! The class finds what leads to what. -/
theorem s_isIn {d : Nat} {M : Mem} {s j : Nat} (hs : s < 128) (hj : j < 32) : Post (d + 1) cQ_isIn [.inl (s : Int), .inl (j : Int)] M (fun v M' => M' = M ∧ ((v = 1 ∧ s.testBit j = true) ∨ (v = 0 ∧ s.testBit j = false))) := by
  intro Q hQ
  refine e_Q_isIn (b_Q_isIn_0 ?_)
  rw [bit_and hs hj]
  refine ⟨⟨by omega, by omega⟩, ⟨by omega, by omega⟩, ?_⟩
  cases h : s.testBit j
  · exact ⟨⟨by decide, by decide⟩, fun _ => hQ _ _ ⟨rfl, Or.inr ⟨rfl, h⟩⟩, fun z => absurd rfl z⟩
  · exact ⟨⟨by decide, by decide⟩, fun z => absurd z (by decide), fun _ => hQ _ _ ⟨rfl, Or.inl ⟨rfl, h⟩⟩⟩
def RowB (M : Mem) (r n : Nat) (E : Nat → Nat → Prop) (K i : Nat) : Prop := ∃ s : Nat, M r i = (s : Int) ∧ s < 128 ∧ ∀ j, s.testBit j = true ↔ j < n ∧ Wk E K i j
theorem s_followWays {d : Nat} {M : Mem} {r0 r2 n : Nat} {A : Nat → Nat → Int} (hn : n ≤ 7) (h2 : wAk r2 = 1) (h2l : n ≤ wAl r2) (h0 : 3 ≤ wAk r0) (h0l : n ≤ wAl r0) (hr : ∀ i, i < n → wAk (wRa r0 i) = 1 ∧ n ≤ wAl (wRa r0 i) ∧ wRa r0 i ≠ r2) (hA : ∀ i j, i < n → j < n → M (wRa r0 i) j = A i j ∧ R32 (A i j)) :
    Post (d + 2) cQ_followWays [.inr (.inr (.inl r0)), .inl (n : Int), .inr (.inr (.inl r2))] M (fun _ M' => Fr [r2] M M' ∧ ∀ i, i < n → ∃ s : Nat, M' r2 i = (s : Int) ∧ isSet n (cE n A (-1)) i s) := by
  intro Q hQ
  have cEi : ∀ i j, cE n A (-1) i j ↔ i < n ∧ j < n ∧ 0 < A i j := fun i j => ⟨fun h => h.2, fun h => ⟨by omega, h⟩⟩
  have fin : ∀ M', Fr [r2] M M' → (∀ i, i < n → RowB M' r2 n (cE n A (-1)) n i) → Q (.inl 0) M' := fun M' f h => hQ _ _ ⟨f, fun i hi => by
    obtain ⟨s, h1, h2, h3⟩ := h i hi
    refine ⟨s, h1, h2, fun j => ?_⟩
    rw [h3 j, Wk.all (fun a b h => h.2.1)]⟩
  have phase2 : ∀ (f k : Nat), k + f = n → ∀ M1 o0 o4, Fr [r2] M M1 → (∀ i, i < n → RowB M1 r2 n (cE n A (-1)) k i) → L_Q_followWays_39 (d + 1) Q M1 o0 (n : Int) r2 (k : Int) o4 := by
    intro f
    induction f with
    | zero =>
      intro k hk M1 o0 o4 f hall
      have hk : k = n := by omega
      subst hk
      exact b_Q_followWays_39 ⟨⟨by omega, by omega⟩, ⟨by omega, by omega⟩, fun _ => fin M1 f hall, fun z => absurd (Int.le_refl _) z⟩
    | succ f ih =>
      intro k hk M1 o0 o4 f hall
      refine b_Q_followWays_39 ⟨⟨by omega, by omega⟩, ⟨by omega, by omega⟩, fun z => absurd z (by omega), fun _ => ?_⟩
      have inner : ∀ (g i : Nat), i + g = n → ∀ M2, Fr [r2] M M2 → (∀ i', i' < n → RowB M2 r2 n (cE n A (-1)) (if i' < i then k + 1 else k) i') → L_Q_followWays_44 (d + 1) Q M2 o0 (n : Int) r2 (k : Int) (i : Int) := by
        intro g
        induction g with
        | zero =>
          intro i hi M2 f2 hall2
          have hi : i = n := by omega
          subst hi
          refine b_Q_followWays_44 ⟨⟨by omega, by omega⟩, ⟨by omega, by omega⟩, fun _ => ?_, fun z => absurd (Int.le_refl _) z⟩
          rw [show (k : Int) + 1 = ((k + 1 : Nat) : Int) by omega]
          refine ih (k + 1) (by omega) M2 _ _ f2 fun i' hi' => ?_
          have := hall2 i' hi'
          rw [if_pos hi'] at this
          exact this
        | succ g ihg =>
          intro i hi M2 f2 hall2
          have q1 := hall2 i (by omega)
          rw [if_neg (by omega)] at q1
          obtain ⟨s, s1, s2, s3⟩ := q1
          have q2 := hall2 k (by omega)
          have q2' : ∃ t : Nat, M2 r2 k = (t : Int) ∧ t < 128 ∧ ∀ j, t.testBit j = true ↔ j < n ∧ Wk (cE n A (-1)) k k j := by
            obtain ⟨t, t1, t2, t3⟩ := q2
            refine ⟨t, t1, t2, fun j => ?_⟩
            rw [t3 j]
            by_cases e : k < i
            · rw [if_pos e, Wk.self]
            · rw [if_neg e]
          obtain ⟨t, t1, t2, t3⟩ := q2'
          refine b_Q_followWays_44 ?_
          rw [Int.toNat_natCast, s1]
          refine ⟨⟨by omega, by omega⟩, ⟨by omega, by omega⟩, fun z => absurd z (by omega), fun _ => ⟨h2, ⟨by omega, by omega⟩, ?_⟩⟩
          refine (s_isIn (d := d) s2 (by omega)).cal fun v3 M3 hM3 => ?_
          obtain ⟨rfl, ⟨rfl, g3⟩ | ⟨rfl, g3⟩⟩ := hM3
          · refine ⟨⟨by decide, by decide⟩, fun z => absurd z (by decide), fun _ => ⟨⟨by omega, by omega⟩, ?_⟩⟩
            obtain ⟨e1, e2⟩ := bit_or s2 t2
            rw [Int.toNat_natCast, s1, t1, e1, show (i : Int) + 1 = ((i + 1 : Nat) : Int) by omega]
            refine ihg (i + 1) (by omega) _ (f2.u2 (by simp)) fun i' hi' => ?_
            by_cases e : i' = i
            · refine ⟨s ||| t, by rw [e, u2_same], e2, fun j => ?_⟩
              rw [e, if_pos (by omega), Nat.testBit_or, Bool.or_eq_true, s3 j, t3 j, Wk.next]
              have hk := ((s3 k).mp g3).2
              constructor
              · rintro (h | h)
                · exact ⟨h.1, Or.inl h.2⟩
                · exact ⟨h.1, Or.inr ⟨hk, h.2⟩⟩
              · rintro ⟨h, h' | h'⟩
                · exact Or.inl ⟨h, h'⟩
                · exact Or.inr ⟨h, h'.2⟩
            · obtain ⟨u, u1, u2, u3⟩ := hall2 i' hi'
              refine ⟨u, by rw [u2_ne e]; exact u1, u2, fun j => ?_⟩
              rw [u3 j]
              by_cases c : i' < i
              · rw [if_pos c, if_pos (by omega)]
              · rw [if_neg c, if_neg (by omega)]
          · refine ⟨⟨by decide, by decide⟩, fun _ => ?_, fun z => absurd rfl z⟩
            rw [show (i : Int) + 1 = ((i + 1 : Nat) : Int) by omega]
            refine ihg (i + 1) (by omega) _ f2 fun i' hi' => ?_
            by_cases e : i' = i
            · refine ⟨s, by rw [e]; exact s1, s2, fun j => ?_⟩
              rw [e, if_pos (by omega), s3 j, Wk.next]
              have hk : ¬ Wk (cE n A (-1)) k i k := fun h => by
                have := (s3 k).mpr ⟨by omega, h⟩
                rw [this] at g3
                cases g3
              constructor
              · intro h
                exact ⟨h.1, Or.inl h.2⟩
              · rintro ⟨h, h' | h'⟩
                · exact ⟨h, h'⟩
                · exact absurd h'.1 hk
            · obtain ⟨u, u1, u2, u3⟩ := hall2 i' hi'
              refine ⟨u, u1, u2, fun j => ?_⟩
              rw [u3 j]
              by_cases c : i' < i
              · rw [if_pos c, if_pos (by omega)]
              · rw [if_neg c, if_neg (by omega)]
      refine inner n 0 (by omega) M1 f fun i' hi' => ?_
      rw [if_neg (Nat.not_lt_zero _)]
      exact hall i' hi'
  have phase1 : ∀ (f i : Nat), i + f = n → ∀ M1 o4, Fr [r2] M M1 → (∀ i', i' < i → RowB M1 r2 n (cE n A (-1)) 0 i') → L_Q_followWays_2 (d + 1) Q M1 r0 (n : Int) r2 (i : Int) o4 := by
    intro f
    induction f with
    | zero =>
      intro i hi M1 o4 f hall
      have hi : i = n := by omega
      subst hi
      exact b_Q_followWays_2 ⟨⟨by omega, by omega⟩, ⟨by omega, by omega⟩, fun _ => phase2 i 0 (by omega) M1 _ _ f hall, fun z => absurd (Int.le_refl _) z⟩
    | succ f ih =>
      intro i hi M1 o4 f hall
      refine b_Q_followWays_2 ⟨⟨by omega, by omega⟩, ⟨by omega, by omega⟩, fun z => absurd z (by omega), fun _ => ⟨⟨by omega, by omega⟩, h2, ⟨by omega, by omega⟩, ?_⟩⟩
      obtain ⟨b1, b2⟩ := bit_one (j := i) (by omega)
      rw [b1, Int.toNat_natCast]
      obtain ⟨w1, w2, w3⟩ := hr i (by omega)
      have inner : ∀ (g j : Nat), j + g = n → ∀ M2, Fr [r2] M M2 → (∀ i', i' < i → RowB M2 r2 n (cE n A (-1)) 0 i') → (∃ s : Nat, M2 r2 i = (s : Int) ∧ s < 128 ∧ ∀ q, s.testBit q = true ↔ q = i ∨ (q < j ∧ 0 < A i q)) → L_Q_followWays_13 (d + 1) Q M2 r0 (n : Int) r2 (i : Int) (j : Int) := by
        intro g
        induction g with
        | zero =>
          intro j hj M2 f2 hall2 hrow
          have hj : j = n := by omega
          subst hj
          refine b_Q_followWays_13 ⟨⟨by omega, by omega⟩, ⟨by omega, by omega⟩, fun _ => ?_, fun z => absurd (Int.le_refl _) z⟩
          rw [show (i : Int) + 1 = ((i + 1 : Nat) : Int) by omega]
          refine ih (i + 1) (by omega) M2 _ f2 fun i' hi' => ?_
          by_cases e : i' = i
          · obtain ⟨s, s1, s2, s3⟩ := hrow
            refine ⟨s, by rw [e]; exact s1, s2, fun q => ?_⟩
            rw [e, s3 q]
            show _ ↔ q < j ∧ (i = q ∨ cE j A (-1) i q)
            rw [cEi]
            constructor
            · rintro (h | h)
              · exact ⟨by omega, Or.inl h.symm⟩
              · exact ⟨h.1, Or.inr ⟨by omega, h.1, h.2⟩⟩
            · rintro ⟨h, h' | h'⟩
              · exact Or.inl h'.symm
              · exact Or.inr ⟨h, h'.2.2⟩
          · exact hall2 i' (by omega)
        | succ g ihg =>
          intro j hj M2 f2 hall2 hrow
          obtain ⟨s, s1, s2, s3⟩ := hrow
          obtain ⟨a1, a2⟩ := hA i j (by omega) (by omega)
          have a0 : M2 (wRa r0 i) j = A i j := by rw [f2 _ (by simpa using w3)]; exact a1
          have keep : ∀ (t : Nat) i', i' < i → RowB (upd2 M2 r2 i (t : Int)) r2 n (cE n A (-1)) 0 i' := fun t i' hi' => by
            obtain ⟨u, u1, u2, u3⟩ := hall2 i' hi'
            exact ⟨u, by rw [u2_ne (by omega)]; exact u1, u2, u3⟩
          refine b_Q_followWays_13 ?_
          rw [Int.toNat_natCast, Int.toNat_natCast, a0, s1]
          refine ⟨⟨by omega, by omega⟩, ⟨by omega, by omega⟩, fun z => absurd z (by omega), fun _ => ⟨h2, ⟨by omega, by omega⟩, h0, ⟨by omega, by omega⟩, w1, ⟨by omega, by omega⟩, a2, fun z => ?_, fun z => ⟨⟨by omega, by omega⟩, ?_⟩⟩⟩
          · have e := (bit_or (s := s) (t := 0) s2 (by decide))
            rw [show ((0 : Nat) : Int) = 0 from rfl] at e
            rw [e.1, show (j : Int) + 1 = ((j + 1 : Nat) : Int) by omega, Nat.or_zero]
            refine ihg (j + 1) (by omega) _ (f2.u2 (by simp)) (keep _) ⟨s, u2_same, s2, fun q => ?_⟩
            rw [s3 q]
            constructor
            · rintro (h | h)
              · exact Or.inl h
              · exact Or.inr ⟨by omega, h.2⟩
            · rintro (h | h)
              · exact Or.inl h
              · by_cases e : q = j
                · subst e; omega
                · exact Or.inr ⟨by omega, h.2⟩
          · have e0 : (1 : Int) * 2 ^ j = ((2 ^ j : Nat) : Int) := by rw [Int.one_mul]; push_cast; rfl
            have p2 : 2 ^ j < 128 := (bit_one (j := j) (by omega)).2
            obtain ⟨e1, e2⟩ := bit_or s2 p2
            rw [e0, e1, show (j : Int) + 1 = ((j + 1 : Nat) : Int) by omega]
            refine ihg (j + 1) (by omega) _ (f2.u2 (by simp)) (keep _) ⟨s ||| 2 ^ j, u2_same, e2, fun q => ?_⟩
            rw [Nat.testBit_or, Bool.or_eq_true, s3 q, bit_pow, decide_eq_true_iff]
            constructor
            · rintro ((h | h) | h)
              · exact Or.inl h
              · exact Or.inr ⟨by omega, h.2⟩
              · subst h; exact Or.inr ⟨by omega, by omega⟩
            · rintro (h | h)
              · exact Or.inl (Or.inl h)
              · by_cases e : q = j
                · exact Or.inr e.symm
                · exact Or.inl (Or.inr ⟨by omega, h.2⟩)
      refine inner n 0 (by omega) _ (f.u2 (by simp)) (fun i' hi' => ?_) ⟨2 ^ i, u2_same, b2, fun q => ?_⟩
      · obtain ⟨u, u1, u2, u3⟩ := hall i' hi'
        exact ⟨u, by rw [u2_ne (by omega)]; exact u1, u2, u3⟩
      · rw [bit_pow, decide_eq_true_iff]
        exact ⟨fun h => Or.inl h.symm, fun h => by
          rcases h with h | h
          · exact h.symm
          · exact absurd h.1 (Nat.not_lt_zero _)⟩
  exact e_Q_followWays (b_Q_followWays_0 (phase1 n 0 (by omega) M _ Fr.rfl' fun i' h => absurd h (Nat.not_lt_zero i')))
