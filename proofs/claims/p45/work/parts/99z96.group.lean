/-! Groups: the class. -/
def inGrp (n : Nat) (E : Nat → Nat → Prop) (i : Nat) : Prop := ∀ j, j < n → Rch E i j → Rch E j i
def isLst (n : Nat) (E : Nat → Nat → Prop) (i : Nat) : Prop := inGrp n E i ∧ ∀ k, k < i → ¬ Rch E i k
/-- c of the first k are so -/
def Cn (P : Nat → Prop) : Nat → Nat → Prop
  | 0 => fun c => c = 0
  | k + 1 => fun c => ∃ c', Cn P k c' ∧ ((P k ∧ c = c' + 1) ∨ (¬ P k ∧ c = c'))
theorem Cn.uniq {P : Nat → Prop} : ∀ {k c c' : Nat}, Cn P k c → Cn P k c' → c = c' := by
  intro k
  induction k with
  | zero => intro c c' h h'; exact h.trans h'.symm
  | succ k ih =>
    intro c c' h h'
    obtain ⟨a, a1, a2⟩ := h
    obtain ⟨b, b1, b2⟩ := h'
    have e := ih a1 b1
    rcases a2 with a2 | a2 <;> rcases b2 with b2 | b2
    · omega
    · exact absurd a2.1 b2.1
    · exact absurd b2.1 a2.1
    · omega
theorem Cn.le {P : Nat → Prop} : ∀ {k c : Nat}, Cn P k c → c ≤ k := by
  intro k
  induction k with
  | zero => intro c h; exact Nat.le_of_eq h
  | succ k ih =>
    intro c h
    obtain ⟨a, a1, a2⟩ := h
    have := ih a1
    omega
def gIs (n : Nat) (E : Nat → Nat → Prop) (i v : Int) : Prop := (i = -1 ∧ ∃ c : Nat, v = c ∧ Cn (isLst n E) n c) ∨ (0 ≤ i ∧ ¬ inGrp n E i.toNat ∧ v = -1) ∨ (0 ≤ i ∧ inGrp n E i.toNat ∧ ∃ l c : Nat, Rch E i.toNat l ∧ (∀ k, k < l → ¬ Rch E i.toNat k) ∧ v = c ∧ Cn (isLst n E) l c)
theorem gIs.uniq {n : Nat} {E : Nat → Nat → Prop} {i v w : Int} (h : gIs n E i v) (h2 : gIs n E i w) : v = w := by
  rcases h with ⟨a, c, rfl, hc⟩ | ⟨a, b, rfl⟩ | ⟨a, b, l, c, l1, l2, rfl, hc⟩ <;> rcases h2 with ⟨a', c', rfl, hc'⟩ | ⟨a', b', rfl⟩ | ⟨a', b', l', c', l1', l2', rfl, hc'⟩
  · rw [hc.uniq hc']
  · omega
  · omega
  · omega
  · rfl
  · exact absurd b' b
  · omega
  · exact absurd b b'
  · have e : l = l' := by
      rcases Nat.lt_trichotomy l l' with h | h | h
      · exact absurd l1 (l2' l h)
      · exact h
      · exact absurd l1' (l2 l' h)
    subst e
    rw [hc.uniq hc']
/-- what the class has found -/
def CL (M : Mem) (n : Nat) (E : Nat → Nat → Prop) : Prop := ∀ i, i < n → ∃ s : Nat, M 126 i = (s : Int) ∧ isSet n E i s
theorem s_doesLead {d : Nat} {M : Mem} {n i j : Nat} {E : Nat → Nat → Prop} (hL : CL M n E) (h7 : n ≤ 7) (hi : i < n) (hj : j < n) : Post (d + 2) cC_doesLead [oC, .inl (i : Int), .inl (j : Int)] M (fun v M' => M' = M ∧ ((v = 1 ∧ Rch E i j) ∨ (v = 0 ∧ ¬ Rch E i j))) := by
  intro Q hQ
  obtain ⟨s, s1, s2, s3⟩ := hL i hi
  refine e_C_doesLead (b_C_doesLead_0 ⟨⟨by omega, by omega⟩, ?_⟩)
  rw [Int.toNat_natCast, s1]
  refine (s_isIn (d := d) s2 (by omega)).cal fun v1 M1 hM1 => ?_
  obtain ⟨rfl, ⟨rfl, g⟩ | ⟨rfl, g⟩⟩ := hM1
  · exact ⟨Or.inr rfl, hQ _ _ ⟨rfl, Or.inl ⟨rfl, ((s3 j).mp g).2⟩⟩⟩
  · refine ⟨Or.inl rfl, hQ _ _ ⟨rfl, Or.inr ⟨rfl, fun h => ?_⟩⟩⟩
    have := (s3 j).mpr ⟨hj, h⟩
    rw [this] at g
    cases g
theorem s_isInGroup {d : Nat} {M : Mem} {n i : Nat} {E : Nat → Nat → Prop} (hL : CL M n E) (hn : M 130 0 = n) (h7 : n ≤ 7) (hi : i < n) : Post (d + 3) cC_isInGroup [oC, .inl (i : Int)] M (fun v M' => M' = M ∧ ((v = 1 ∧ inGrp n E i) ∨ (v = 0 ∧ ¬ inGrp n E i))) := by
  intro Q hQ
  refine e_C_isInGroup (b_C_isInGroup_0 ?_)
  have loop : ∀ (f k : Nat), k + f = n → (∀ j, j < k → Rch E i j → Rch E j i) → L_C_isInGroup_2 (d + 2) Q M (i : Int) (k : Int) := by
    intro f
    induction f with
    | zero =>
      intro k hk hall
      have hk : k = n := by omega
      subst hk
      refine b_C_isInGroup_2 ?_
      rw [hn]
      exact ⟨⟨by omega, by omega⟩, ⟨by omega, by omega⟩, fun _ => hQ _ _ ⟨rfl, Or.inl ⟨rfl, hall⟩⟩, fun z => absurd (Int.le_refl _) z⟩
    | succ f ih =>
      intro k hk hall
      have nx : (Rch E i k → Rch E k i) → L_C_isInGroup_2 (d + 2) Q M (i : Int) ((k : Int) + 1) := fun h => by
        rw [show (k : Int) + 1 = ((k + 1 : Nat) : Int) by omega]
        refine ih (k + 1) (by omega) fun j hj => ?_
        by_cases e : j = k
        · rw [e]; exact h
        · exact hall j (by omega)
      refine b_C_isInGroup_2 ?_
      rw [hn]
      refine ⟨⟨by omega, by omega⟩, ⟨by omega, by omega⟩, fun z => absurd z (by omega), fun _ => ?_⟩
      refine (s_doesLead (d := d) hL h7 hi (show k < n by omega)).cal fun v1 M1 hM1 => ?_
      obtain ⟨rfl, ⟨rfl, g⟩ | ⟨rfl, g⟩⟩ := hM1
      · refine ⟨⟨by decide, by decide⟩, fun z => absurd z (by decide), fun _ => ?_⟩
        refine (s_doesLead (d := d) hL h7 (show k < n by omega) hi).cal fun v1 M1 hM1 => ?_
        obtain ⟨rfl, ⟨rfl, g2⟩ | ⟨rfl, g2⟩⟩ := hM1
        · exact ⟨⟨by decide, by decide⟩, fun _ => nx fun _ => g2, fun z => absurd (by decide) z⟩
        · exact ⟨⟨by decide, by decide⟩, fun z => absurd rfl z, fun _ => hQ _ _ ⟨rfl, Or.inr ⟨rfl, fun h => g2 (h k (by omega) g)⟩⟩⟩
      · exact ⟨⟨by decide, by decide⟩, fun _ => nx fun h => absurd h g, fun z => absurd rfl z⟩
  exact loop n 0 (by omega) fun j h => absurd h (Nat.not_lt_zero j)
theorem s_isLeastOfGroup {d : Nat} {M : Mem} {n i : Nat} {E : Nat → Nat → Prop} (hL : CL M n E) (hn : M 130 0 = n) (h7 : n ≤ 7) (hi : i < n) : Post (d + 4) cC_isLeastOfGroup [oC, .inl (i : Int)] M (fun v M' => M' = M ∧ ((v = 1 ∧ isLst n E i) ∨ (v = 0 ∧ ¬ isLst n E i))) := by
  intro Q hQ
  refine e_C_isLeastOfGroup (b_C_isLeastOfGroup_0 ?_)
  refine (s_isInGroup (d := d) hL hn h7 hi).cal fun v1 M1 hM1 => ?_
  obtain ⟨rfl, ⟨rfl, g⟩ | ⟨rfl, g⟩⟩ := hM1
  · obtain ⟨s, s1, s2, s3⟩ := hL i hi
    have low := bit_low s2 (show i < 7 by omega)
    rw [show (i : Int).toNat = i from Int.toNat_natCast i] at low ⊢
    rw [s1]
    have hz : 0 ≤ zand (s : Int) ((1 : Int) * 2 ^ i - 1) ∧ zand (s : Int) ((1 : Int) * 2 ^ i - 1) ≤ 127 := by
      unfold zand
      rw [show ((s : Int) % 4294967296).toNat = s by omega]
      have := Nat.and_le_left (n := s) (m := (((1 : Int) * 2 ^ i - 1) % 4294967296).toNat)
      omega
    refine ⟨⟨by decide, by decide⟩, fun z => absurd z (by decide), fun _ => ⟨⟨by omega, by omega⟩, ⟨by omega, by omega⟩, ⟨by omega, by omega⟩, fun z => hQ _ _ ⟨rfl, Or.inr ⟨rfl, fun h => z (low.mpr fun k hk => ?_)⟩⟩, fun z => hQ _ _ ⟨rfl, Or.inl ⟨rfl, g, fun k hk h => ?_⟩⟩⟩⟩
    · cases e : s.testBit k
      · rfl
      · exact absurd ((s3 k).mp e).2 (h.2 k hk)
    · have a := low.mp (Classical.not_not.mp z) k hk
      have b := (s3 k).mpr ⟨by omega, h⟩
      rw [a] at b
      cases b
  · exact ⟨⟨by decide, by decide⟩, fun _ => hQ _ _ ⟨rfl, Or.inr ⟨rfl, fun h => g h.1⟩⟩, fun z => absurd rfl z⟩
theorem s_groupsBelow {d : Nat} {M : Mem} {n m : Nat} {E : Nat → Nat → Prop} (hL : CL M n E) (hn : M 130 0 = n) (h7 : n ≤ 7) (hm : m ≤ n) : Post (d + 5) cC_groupsBelow [oC, .inl (m : Int)] M (fun v M' => M' = M ∧ ∃ c : Nat, v = c ∧ Cn (isLst n E) m c) := by
  intro Q hQ
  refine e_C_groupsBelow (b_C_groupsBelow_0 ?_)
  have loop : ∀ (f k : Nat), k + f = m → ∀ c : Nat, Cn (isLst n E) k c → L_C_groupsBelow_4 (d + 4) Q M (m : Int) (c : Int) (k : Int) := by
    intro f
    induction f with
    | zero =>
      intro k hk c hc
      have hk : k = m := by omega
      subst hk
      exact b_C_groupsBelow_4 ⟨⟨by omega, by omega⟩, ⟨by omega, by omega⟩, fun _ => hQ _ _ ⟨rfl, c, rfl, hc⟩, fun z => absurd (Int.le_refl _) z⟩
    | succ f ih =>
      intro k hk c hc
      refine b_C_groupsBelow_4 ?_
      rw [hn]
      refine ⟨⟨by omega, by omega⟩, ⟨by omega, by omega⟩, fun z => absurd z (by omega), fun _ => ⟨⟨by omega, by omega⟩, fun z => absurd z (by omega), fun _ => ?_⟩⟩
      refine (s_isLeastOfGroup (d := d) hL hn h7 (show k < n by omega)).cal fun v1 M1 hM1 => ?_
      rw [show (k : Int) + 1 = ((k + 1 : Nat) : Int) by omega]
      obtain ⟨rfl, ⟨rfl, g⟩ | ⟨rfl, g⟩⟩ := hM1
      · refine ⟨⟨by decide, by decide⟩, fun z => absurd z (by decide), fun _ => ?_⟩
        exact ih (k + 1) (by omega) (c + 1) ⟨c, hc, Or.inl ⟨g, rfl⟩⟩
      · refine ⟨⟨by decide, by decide⟩, fun _ => ?_, fun z => absurd rfl z⟩
        rw [Int.add_zero]
        exact ih (k + 1) (by omega) c ⟨c, hc, Or.inr ⟨g, rfl⟩⟩
  exact loop m 0 (by omega) 0 rfl
theorem s_groupNumber {d : Nat} {M : Mem} {n i : Nat} {E : Nat → Nat → Prop} (hL : CL M n E) (hn : M 130 0 = n) (h7 : n ≤ 7) (hi : i < n) : Post (d + 6) cC_groupNumber [oC, .inl (i : Int)] M (fun v M' => M' = M ∧ gIs n E (i : Int) v) := by
  intro Q hQ
  refine e_C_groupNumber (b_C_groupNumber_0 ?_)
  refine (s_isInGroup (d := d + 2) hL hn h7 hi).cal fun v1 M1 hM1 => ?_
  obtain ⟨rfl, ⟨rfl, g⟩ | ⟨rfl, g⟩⟩ := hM1
  · refine ⟨⟨by decide, by decide⟩, fun _ => ?_, fun z => absurd (by decide) z⟩
    have loop : ∀ (f k : Nat), k + f = i → (∀ j, j < k → ¬ Rch E i j) → L_C_groupNumber_8 (d + 5) Q M1 (i : Int) (k : Int) := by
      intro f
      induction f with
      | zero =>
        intro k hk hall
        have hk : k = i := by omega
        subst hk
        refine b_C_groupNumber_8 ⟨⟨by omega, by omega⟩, ⟨by omega, by omega⟩, fun _ => ?_, fun z => absurd (Int.le_refl _) z⟩
        refine (s_groupsBelow (d := d) hL hn h7 (show k ≤ n by omega)).cal fun v1 M1 hM1 => ?_
        obtain ⟨rfl, c, rfl, hc⟩ := hM1
        exact hQ _ _ ⟨rfl, Or.inr (Or.inr ⟨by omega, g, k, c, .refl _, hall, rfl, hc⟩)⟩
      | succ f ih =>
        intro k hk hall
        refine b_C_groupNumber_8 ⟨⟨by omega, by omega⟩, ⟨by omega, by omega⟩, fun z => absurd z (by omega), fun _ => ?_⟩
        refine (s_doesLead (d := d + 3) hL h7 hi (show k < n by omega)).cal fun v1 M1 hM1 => ?_
        obtain ⟨rfl, ⟨rfl, g1⟩ | ⟨rfl, g1⟩⟩ := hM1
        · refine ⟨⟨by decide, by decide⟩, fun _ => ?_, fun z => absurd (by decide) z⟩
          refine (s_groupsBelow (d := d) hL hn h7 (show k ≤ n by omega)).cal fun v1 M1 hM1 => ?_
          obtain ⟨rfl, c, rfl, hc⟩ := hM1
          exact hQ _ _ ⟨rfl, Or.inr (Or.inr ⟨by omega, g, k, c, g1, hall, rfl, hc⟩)⟩
        · refine ⟨⟨by decide, by decide⟩, fun z => absurd rfl z, fun _ => ?_⟩
          rw [show (k : Int) + 1 = ((k + 1 : Nat) : Int) by omega]
          refine ih (k + 1) (by omega) fun j hj => ?_
          by_cases e : j = k
          · rw [e]; exact g1
          · exact hall j (by omega)
    exact loop i 0 (by omega) fun j h => absurd h (Nat.not_lt_zero j)
  · exact ⟨⟨by decide, by decide⟩, fun z => absurd rfl z, fun _ => hQ _ _ ⟨rfl, Or.inr (Or.inl ⟨by omega, g, rfl⟩)⟩⟩
theorem wa126 : wAk 126 = 1 ∧ wAl 126 = 7 ∧ wAk 125 ≥ 3 ∧ wAl 125 = 7 := by decide +kernel
theorem s_findLeads {d : Nat} {M : Mem} {n : Nat} {b : Int} {A : Nat → Nat → Int} (hC : CC M n b A) (hO : cOk n b A) : Post (d + 3) cC_findLeads [oC] M (fun _ M' => Fr [126] M M' ∧ CL M' n (cE n A (-1))) := by
  intro Q hQ
  obtain ⟨c1, c2, c3⟩ := hC
  have h7 := hO.1
  have hb := hO.2.1
  obtain ⟨w1, w2, w3, w4⟩ := wa126
  refine e_C_findLeads (b_C_findLeads_0 ?_)
  rw [c1]
  refine (s_followWays (d := d) (r0 := 125) (r2 := 126) (n := n) (A := A) h7.2 w1 (by omega) w3 (by omega) (fun i hi => ?_) (fun i j hi hj => ?_)).cal fun v1 M1 hM1 => ?_
  · obtain ⟨r1, r2, r3⟩ := wra125 i (by omega)
    rw [r1]
    exact ⟨r2, by omega, by omega⟩
  · obtain ⟨r1, r2, r3⟩ := wra125 i (by omega)
    rw [r1, c3 i j (by omega) (by omega)]
    have := hO.2.2.1 i j (by omega) (by omega)
    exact ⟨rfl, by omega, by omega⟩
  · obtain ⟨f1, g1⟩ := hM1
    exact hQ _ _ ⟨f1, g1⟩
theorem s_Qgroup {d : Nat} {M : Mem} {n : Nat} {b i : Int} {A : Nat → Nat → Int} (hC : CC M n b A) (hO : cOk n b A) (hi : R32 i) : PostE (d + 7) cQ_group [oQ, .inl i] M (fun r M' => ((¬ (i = -1 ∨ (0 ≤ i ∧ i < n))) ∧ r = .inr 4 ∧ M' = M) ∨ ((i = -1 ∨ (0 ≤ i ∧ i < n)) ∧ ¬ lawful n b A ∧ r = .inr 5 ∧ M' = M) ∨ ((i = -1 ∨ (0 ≤ i ∧ i < n)) ∧ lawful n b A ∧ Fr [126] M M' ∧ ∃ v, r = .inl v ∧ gIs n (cE n A (-1)) i v)) := by
  intro Q hQ
  have h7 := hO.1
  refine e_Q_group (b_Q_group_0 ⟨hi, fun z => ?_, fun z => ?_⟩)
  · refine (s_needLawful (d := d + 3) hC hO).cal fun r1 M1 hM1 => ?_
    rcases hM1 with ⟨h1, rfl, rfl⟩ | ⟨h1, rfl, rfl⟩
    · exact hQ _ _ (Or.inr (Or.inl ⟨Or.inl z, h1, rfl, rfl⟩))
    refine (s_findLeads (d := d + 3) hC hO).cal fun v2 M2 hM2 => ?_
    obtain ⟨f2, g2⟩ := hM2
    refine ⟨fun z2 => absurd z z2, fun _ => ?_⟩
    have hn2 : M2 130 0 = n := by rw [f2 130 (by decide)]; exact hC.1
    rw [hn2]
    refine (s_groupsBelow (d := d + 1) g2 hn2 h7.2 (Nat.le_refl n)).cal fun v3 M3 hM3 => ?_
    obtain ⟨rfl, c, rfl, hc⟩ := hM3
    exact hQ _ _ (Or.inr (Or.inr ⟨Or.inl z, h1, f2, _, rfl, Or.inl ⟨z, c, rfl, hc⟩⟩))
  · refine (s_needStates (d := d + 5) hC.1 h7.2 hi hi).cal fun r1 M1 hM1 => ?_
    rcases hM1 with ⟨h0, rfl, rfl⟩ | ⟨h0, rfl, rfl⟩
    · refine hQ _ _ (Or.inl ⟨fun h => h0 ?_, rfl, rfl⟩)
      rcases h with h | h
      · exact absurd h z
      · exact ⟨h, h⟩
    have h0' := h0.1
    refine (s_needLawful (d := d + 3) hC hO).cal fun r1 M1 hM1 => ?_
    rcases hM1 with ⟨h1, rfl, rfl⟩ | ⟨h1, rfl, rfl⟩
    · exact hQ _ _ (Or.inr (Or.inl ⟨Or.inr h0', h1, rfl, rfl⟩))
    refine (s_findLeads (d := d + 3) hC hO).cal fun v2 M2 hM2 => ?_
    obtain ⟨f2, g2⟩ := hM2
    refine ⟨fun _ => ?_, fun z2 => absurd z z2⟩
    have hn2 : M2 130 0 = n := by rw [f2 130 (by decide)]; exact hC.1
    obtain ⟨I, rfl⟩ : ∃ I : Nat, i = I := ⟨i.toNat, by omega⟩
    refine (s_groupNumber (d := d) g2 hn2 h7.2 (show I < n by omega)).cal fun v3 M3 hM3 => ?_
    obtain ⟨rfl, hc⟩ := hM3
    exact hQ _ _ (Or.inr (Or.inr ⟨Or.inr h0', h1, f2, _, rfl, hc⟩))
