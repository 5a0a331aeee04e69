/-! Groups: the reference. -/
theorem s_groupOf {d : Nat} {M : Mem} {n i : Nat} {b : Int} {A : Nat → Nat → Int} (hC : RC M n b A) (hO : cOk n b A) (hi : i < n) : Post (d + 2) cM_groupOf [oM, .inl (i : Int)] M (fun v M' => M' = M ∧ ((v = 0 ∧ ¬ inGrp n (cE n A (-1)) i) ∨ (inGrp n (cE n A (-1)) i ∧ ∃ s : Nat, v = (s : Int) ∧ isSet n (cE n A (-1)) i s))) := by
  intro Q hQ
  have h7 := hO.1
  refine e_M_groupOf (b_M_groupOf_0 ?_)
  refine (s_leads (d := d) hC hO hi ⟨by decide, by decide⟩).cal fun v1 M1 hM1 => ?_
  obtain ⟨rfl, s, rfl, hs⟩ := hM1
  obtain ⟨s2, s3⟩ := hs
  have loop : ∀ (f k : Nat), k + f = n → (∀ j, j < k → Rch (cE n A (-1)) i j → Rch (cE n A (-1)) j i) → L_M_groupOf_7 (d + 1) Q M1 (i : Int) (s : Int) (k : Int) := by
    intro f
    induction f with
    | zero =>
      intro k hk hall
      have hk : k = n := by omega
      subst hk
      refine b_M_groupOf_7 ?_
      rw [hC.1]
      exact ⟨⟨by omega, by omega⟩, ⟨by omega, by omega⟩, fun _ => hQ _ _ ⟨rfl, Or.inr ⟨hall, s, rfl, s2, s3⟩⟩, fun z => absurd (Int.le_refl _) z⟩
    | succ f ih =>
      intro k hk hall
      have nx : (Rch (cE n A (-1)) i k → Rch (cE n A (-1)) k i) → L_M_groupOf_7 (d + 1) Q M1 (i : Int) (s : Int) ((k : Int) + 1) := fun h => by
        rw [show (k : Int) + 1 = ((k + 1 : Nat) : Int) by omega]
        refine ih (k + 1) (by omega) fun j hj => ?_
        by_cases e : j = k
        · rw [e]; exact h
        · exact hall j (by omega)
      refine b_M_groupOf_7 ?_
      rw [hC.1, bit_and s2 (show k < 32 by omega)]
      refine ⟨⟨by omega, by omega⟩, ⟨by omega, by omega⟩, fun z => absurd z (by omega), fun _ => ⟨⟨by omega, by omega⟩, ⟨by omega, by omega⟩, ?_⟩⟩
      cases hb : s.testBit k
      · refine ⟨⟨by decide, by decide⟩, fun _ => nx fun h => ?_, fun z => absurd (fun h => by cases h) z⟩
        have := (s3 k).mpr ⟨by omega, h⟩
        rw [hb] at this
        cases this
      · refine ⟨⟨by decide, by decide⟩, fun z => absurd rfl z, fun _ => ?_⟩
        refine (s_leads (d := d) hC hO (show k < n by omega) ⟨by decide, by decide⟩).cal fun v2 M2 hM2 => ?_
        obtain ⟨rfl, t, rfl, t2, t3⟩ := hM2
        rw [bit_and t2 (show i < 32 by omega)]
        refine ⟨⟨by omega, by omega⟩, ⟨by omega, by omega⟩, ?_⟩
        cases hb2 : t.testBit i
        · refine ⟨⟨by decide, by decide⟩, fun z => absurd rfl z, fun _ => hQ _ _ ⟨rfl, Or.inl ⟨rfl, fun h => ?_⟩⟩⟩
          have := (t3 i).mpr ⟨hi, h k (by omega) ((s3 k).mp hb).2⟩
          rw [hb2] at this
          cases this
        · exact ⟨⟨by decide, by decide⟩, fun _ => nx fun _ => ((t3 i).mp hb2).2, fun z => absurd (fun h => by cases h) z⟩
  exact loop n 0 (by omega) fun j h => absurd h (Nat.not_lt_zero j)
theorem s_leastOf {d : Nat} {M : Mem} {s i : Nat} (hs : s < 128) (hi : i < 7) (hb : s.testBit i = true) : Post (d + 1) cM_leastOf [.inl (s : Int)] M (fun v M' => M' = M ∧ ∃ l : Nat, v = l ∧ l ≤ i ∧ s.testBit l = true ∧ ∀ k, k < l → s.testBit k = false) := by
  intro Q hQ
  refine e_M_leastOf (b_M_leastOf_0 ?_)
  have loop : ∀ (f k : Nat), k + f = i → (∀ j, j < k → s.testBit j = false) → L_M_leastOf_2 d Q M (s : Int) (k : Int) := by
    intro f
    induction f with
    | zero =>
      intro k hk hall
      have hk : k = i := by omega
      subst hk
      refine b_M_leastOf_2 ?_
      rw [bit_and hs (by omega), hb]
      exact ⟨⟨by omega, by omega⟩, ⟨by omega, by omega⟩, ⟨by decide, by decide⟩, fun _ => hQ _ _ ⟨rfl, k, rfl, Nat.le_refl k, hb, hall⟩, fun z => absurd (by decide) z⟩
    | succ f ih =>
      intro k hk hall
      refine b_M_leastOf_2 ?_
      rw [bit_and hs (by omega)]
      refine ⟨⟨by omega, by omega⟩, ⟨by omega, by omega⟩, ?_⟩
      cases e : s.testBit k
      · refine ⟨⟨by decide, by decide⟩, fun z => absurd rfl z, fun _ => ?_⟩
        rw [show (k : Int) + 1 = ((k + 1 : Nat) : Int) by omega]
        refine ih (k + 1) (by omega) fun j hj => ?_
        by_cases e2 : j = k
        · rw [e2]; exact e
        · exact hall j (by omega)
      · exact ⟨⟨by decide, by decide⟩, fun _ => hQ _ _ ⟨rfl, k, rfl, by omega, e, hall⟩, fun z => absurd (by decide) z⟩
  exact loop i 0 (by omega) fun j h => absurd h (Nat.not_lt_zero j)
theorem set_ne {n i s : Nat} {E : Nat → Nat → Prop} (h : isSet n E i s) (hi : i < n) : s.testBit i = true ∧ ¬ (s : Int) = 0 := by
  have hb := (h.2 i).mpr ⟨hi, .refl i⟩
  refine ⟨hb, fun e => ?_⟩
  have e0 : s = 0 := by omega
  rw [e0, Nat.zero_testBit] at hb
  cases hb
theorem s_groupsAhead {d : Nat} {M : Mem} {n m : Nat} {b : Int} {A : Nat → Nat → Int} (hC : RC M n b A) (hO : cOk n b A) (hm : m ≤ n) : Post (d + 3) cM_groupsAhead [oM, .inl (m : Int)] M (fun v M' => M' = M ∧ ∃ c : Nat, v = c ∧ Cn (isLst n (cE n A (-1))) m c) := by
  intro Q hQ
  have h7 := hO.1
  refine e_M_groupsAhead (b_M_groupsAhead_0 ?_)
  have loop : ∀ (f k : Nat), k + f = m → ∀ (c : Nat) o4, Cn (isLst n (cE n A (-1))) k c → L_M_groupsAhead_4 (d + 2) Q M (m : Int) (c : Int) (k : Int) o4 := by
    intro f
    induction f with
    | zero =>
      intro k hk c o4 hc
      have hk : k = m := by omega
      subst hk
      exact b_M_groupsAhead_4 ⟨⟨by omega, by omega⟩, ⟨by omega, by omega⟩, fun _ => hQ _ _ ⟨rfl, c, rfl, hc⟩, fun z => absurd (Int.le_refl _) z⟩
    | succ f ih =>
      intro k hk c o4 hc
      have no : ¬ isLst n (cE n A (-1)) k → ∀ o4, L_M_groupsAhead_4 (d + 2) Q M (m : Int) ((c : Int) + 0) ((k : Int) + 1) o4 := fun h o4 => by
        rw [show (k : Int) + 1 = ((k + 1 : Nat) : Int) by omega, Int.add_zero]
        exact ih (k + 1) (by omega) c o4 ⟨c, hc, Or.inr ⟨h, rfl⟩⟩
      have yes : isLst n (cE n A (-1)) k → ∀ o4, L_M_groupsAhead_4 (d + 2) Q M (m : Int) ((c : Int) + 1) ((k : Int) + 1) o4 := fun h o4 => by
        rw [show (k : Int) + 1 = ((k + 1 : Nat) : Int) by omega]
        exact ih (k + 1) (by omega) (c + 1) o4 ⟨c, hc, Or.inl ⟨h, rfl⟩⟩
      refine b_M_groupsAhead_4 ⟨⟨by omega, by omega⟩, ⟨by omega, by omega⟩, fun z => absurd z (by omega), fun _ => ?_⟩
      refine (s_groupOf (d := d) hC hO (show k < n by omega)).cal fun v1 M1 hM1 => ?_
      obtain ⟨rfl, ⟨rfl, g⟩ | ⟨g, s, rfl, hs⟩⟩ := hM1
      · exact ⟨⟨by decide, by decide⟩, fun _ => no (fun h => g h.1) _, fun z => absurd rfl z⟩
      · obtain ⟨k1, k2⟩ := set_ne hs (show k < n by omega)
        have hs2 := hs.1
        refine ⟨⟨by omega, by omega⟩, fun z => absurd z k2, fun _ => ?_⟩
        refine (s_leastOf (d := d + 1) hs2 (show k < 7 by omega) k1).cal fun v2 M2 hM2 => ?_
        obtain ⟨rfl, l, rfl, hl, hlb, hall⟩ := hM2
        refine ⟨⟨by omega, by omega⟩, fun z => no (fun h => ?_) _, fun z => yes ⟨g, fun j hj h => ?_⟩ _⟩
        · exact h.2 l (by omega) ((hs.2 l).mp hlb).2
        · have a := hall j (by omega)
          have b := (hs.2 j).mpr ⟨by omega, h⟩
          rw [a] at b
          cases b
  exact loop m 0 (by omega) 0 _ rfl
theorem s_Mgroup {d : Nat} {M : Mem} {n : Nat} {b i : Int} {A : Nat → Nat → Int} (hC : RC M n b A) (hO : cOk n b A) (hi : R32 i) : Post (d + 4) cM_group [oM, .inl i] M (fun v M' => ((¬ (i = -1 ∨ (0 ≤ i ∧ i < n))) ∧ M' = upd2 M 175 0 1) ∨ ((i = -1 ∨ (0 ≤ i ∧ i < n)) ∧ ¬ lawful n b A ∧ M' = upd2 M 175 0 2) ∨ ((i = -1 ∨ (0 ≤ i ∧ i < n)) ∧ lawful n b A ∧ M' = upd2 M 175 0 0 ∧ gIs n (cE n A (-1)) i v)) := by
  intro Q hQ
  have h7 := hO.1
  have go : (i = -1 ∨ (0 ≤ i ∧ i < n)) → ∀ o2, L_M_group_11 (d + 3) Q M i o2 := by
    intro ok o2
    refine b_M_group_11 ?_
    refine (s_MisLawful (d := d + 1) hC hO).cal fun v1 M1 hM1 => ?_
    obtain ⟨rfl, ⟨rfl, g⟩ | ⟨rfl, g⟩⟩ := hM1
    · refine ⟨⟨by decide, by decide⟩, fun _ => ⟨hi, fun z => ?_, fun z => ?_⟩, fun z => absurd (by decide) z⟩
      · have h0 : 0 ≤ i ∧ i < n := by
          rcases ok with h | h
          · exact absurd h z
          · exact h
        obtain ⟨I, rfl⟩ : ∃ I : Nat, i = I := ⟨i.toNat, by omega⟩
        refine (s_groupOf (d := d + 1) hC hO (show I < n by omega)).cal fun v2 M2 hM2 => ?_
        obtain ⟨rfl, ⟨rfl, g2⟩ | ⟨g2, s, rfl, hs⟩⟩ := hM2
        · refine ⟨⟨by decide, by decide⟩, fun z => absurd rfl z, fun _ => ?_⟩
          refine (s_told (d := d + 2)).cal fun v6 M6 hM6 => ?_
          obtain ⟨rfl, rfl⟩ := hM6
          exact hQ _ _ (Or.inr (Or.inr ⟨ok, g, rfl, Or.inr (Or.inl ⟨by omega, g2, rfl⟩)⟩))
        · obtain ⟨k1, k2⟩ := set_ne hs (show I < n by omega)
          have hs2 := hs.1
          refine ⟨⟨by omega, by omega⟩, fun _ => ?_, fun z => absurd k2 z⟩
          refine (s_leastOf (d := d + 2) hs2 (show I < 7 by omega) k1).cal fun v3 M3 hM3 => ?_
          obtain ⟨rfl, l, rfl, hl, hlb, hall⟩ := hM3
          refine (s_groupsAhead (d := d) hC hO (show l ≤ n by omega)).cal fun v4 M4 hM4 => ?_
          obtain ⟨rfl, c, rfl, hc⟩ := hM4
          refine (s_told (d := d + 2)).cal fun v6 M6 hM6 => ?_
          obtain ⟨rfl, rfl⟩ := hM6
          refine hQ _ _ (Or.inr (Or.inr ⟨ok, g, rfl, Or.inr (Or.inr ⟨by omega, g2, l, c, ((hs.2 l).mp hlb).2, fun j hj h => ?_, rfl, hc⟩)⟩))
          have a := hall j hj
          have b := (hs.2 j).mpr ⟨by omega, h⟩
          rw [a] at b
          cases b
      · have e := Classical.not_not.mp z
        rw [hC.1]
        refine (s_groupsAhead (d := d) hC hO (Nat.le_refl n)).cal fun v4 M4 hM4 => ?_
        obtain ⟨rfl, c, rfl, hc⟩ := hM4
        refine (s_told (d := d + 2)).cal fun v6 M6 hM6 => ?_
        obtain ⟨rfl, rfl⟩ := hM6
        exact hQ _ _ (Or.inr (Or.inr ⟨ok, g, rfl, Or.inl ⟨e, c, rfl, hc⟩⟩))
    · refine ⟨⟨by decide, by decide⟩, fun z => absurd rfl z, fun _ => ?_⟩
      refine (s_refuse (d := d + 2)).cal fun v2 M2 hM2 => ?_
      obtain ⟨rfl, rfl⟩ := hM2
      exact hQ _ _ (Or.inr (Or.inl ⟨ok, g, rfl⟩))
  refine e_M_group (b_M_group_0 ⟨hi, fun z => go (Or.inl z) _, fun z => ?_⟩)
  refine (s_isState (d := d + 1) hC.1 h7.2 hi).cal fun v1 M1 hM1 => ?_
  obtain ⟨rfl, ⟨rfl, g⟩ | ⟨rfl, g⟩⟩ := hM1
  · exact ⟨⟨by decide, by decide⟩, fun _ => go (Or.inr g) _, fun z => absurd (by decide) z⟩
  · refine ⟨⟨by decide, by decide⟩, fun z => absurd rfl z, fun _ => ?_⟩
    refine (s_refuse (d := d + 2)).cal fun v2 M2 hM2 => ?_
    obtain ⟨rfl, rfl⟩ := hM2
    refine hQ _ _ (Or.inl ⟨fun h => ?_, rfl⟩)
    rcases h with h | h
    · exact z h
    · exact g h
