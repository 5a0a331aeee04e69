/-! Nets: what is told of them. -/
abbrev oN : PV := .inr (.inr (.inl 142))
theorem wra138 : ∀ i, i < 4 → wRa 138 i = 134 + i ∧ wAk (134 + i) = 1 ∧ wAl (134 + i) = 4 := by decide +kernel
def nOk (n : Nat) (C S : Nat → Int) (A : Nat → Nat → Int) : Prop := (1 ≤ n ∧ n ≤ 4) ∧ cOk n 100 A ∧ (∀ i, i < n → rowS A i n ≤ 100) ∧ (∀ i, i < 4 → 0 ≤ C i ∧ C i ≤ 1000) ∧ ∀ i, i < 4 → 1 ≤ S i ∧ S i ≤ 1000
def NC (M : Mem) (n : Nat) (C S : Nat → Int) (A : Nat → Nat → Int) : Prop := M 142 0 = n ∧ (∀ i, i < 4 → M 132 i = C i) ∧ (∀ i, i < 4 → M 133 i = S i) ∧ ∀ i j, i < 4 → j < 4 → M (134 + i) j = A i j
def NR (M : Mem) (n : Nat) (C S : Nat → Int) (A : Nat → Nat → Int) : Prop := M 175 18 = n ∧ (∀ i, i < 4 → M 155 i = C i) ∧ (∀ i, i < n → M 156 i = S i) ∧ ∀ i j, i < 4 → j < 4 → M 157 (4 * i + j) = A i j
theorem NC.kept {M M' : Mem} {n : Nat} {C S : Nat → Int} {A : Nat → Nat → Int} {l : List Nat} (h : NC M n C S A) (hf : Fr l M M') (h0 : 142 ∉ l) (h1 : 132 ∉ l) (h2 : 133 ∉ l) (h3 : ∀ i, i < 4 → 134 + i ∉ l) : NC M' n C S A :=
  ⟨by rw [hf 142 h0]; exact h.1, fun i hi => by rw [hf 132 h1]; exact h.2.1 i hi, fun i hi => by rw [hf 133 h2]; exact h.2.2.1 i hi, fun i j hi hj => by rw [hf _ (h3 i hi)]; exact h.2.2.2 i j hi hj⟩
theorem NR.kept {M M' : Mem} {n : Nat} {C S : Nat → Int} {A : Nat → Nat → Int} {cs ss l : List Nat} (h : NR M n C S A) (hf : FM cs ss l M M') (h0 : 155 ∉ cs) (h1 : 156 ∉ cs) (h2 : 157 ∉ cs) (h3 : 18 ∉ ss) : NR M' n C S A :=
  ⟨by rw [hf.2.1 18 h3]; exact h.1, fun i hi => by rw [hf.1 155 (by decide) (by decide) (by decide) (by decide) h0]; exact h.2.1 i hi, fun i hi => by rw [hf.1 156 (by decide) (by decide) (by decide) (by decide) h1]; exact h.2.2.1 i hi, fun i j hi hj => by rw [hf.1 157 (by decide) (by decide) (by decide) (by decide) h2]; exact h.2.2.2 i j hi hj⟩
theorem nOk_new {n : Nat} (hn : 1 ≤ n ∧ n ≤ 4) : nOk n (fun _ => 0) (fun _ => 1) (fun _ _ => 0) := by
  have hr : ∀ i k, rowS (fun _ _ => 0) i k = 0 := fun i k => by
    induction k with
    | zero => rfl
    | succ k ih => show rowS (fun _ _ => 0) i k + 0 = 0; rw [ih]; rfl
  exact ⟨hn, ⟨by omega, by omega, fun i j _ _ => ⟨Int.le_refl 0, (by decide : (0 : Int) ≤ 100)⟩, fun i j _ _ _ => rfl⟩, fun i _ => by rw [hr]; decide, fun i _ => ⟨Int.le_refl 0, (by decide : (0 : Int) ≤ 1000)⟩, fun i _ => ⟨Int.le_refl 1, (by decide : (1 : Int) ≤ 1000)⟩⟩
abbrev netC : List Nat := [142, 132, 133, 134, 135, 136, 137]
theorem s_Nmake {d : Nat} {M : Mem} {m : Int} (hm : 1 ≤ m ∧ m ≤ 4) : Post (d + 2) cN_make [oN, .inl m] M (fun _ M' => Fr netC M M' ∧ NC M' m.toNat (fun _ => 0) (fun _ => 1) (fun _ _ => 0)) := by
  intro Q hQ
  refine e_N_make (b_N_make_0 ?_)
  have f0 : Fr netC M (upd2 M 142 0 m) := Fr.rfl'.u2 (by simp)
  have g0 : (upd2 M 142 0 m) 142 0 = m := u2_same
  generalize upd2 M 142 0 m = M0 at *
  refine (s_fill (d := d) (r0 := 132) (v := 0) (by decide +kernel)).cal fun v1 M1 hM1 => ?_
  obtain ⟨f1, g1⟩ := hM1
  refine (s_fill (d := d) (r0 := 133) (v := 1) (by decide +kernel)).cal fun v2 M2 hM2 => ?_
  obtain ⟨f2, g2⟩ := hM2
  have l132 : wAl 132 = 4 := by decide +kernel
  have l133 : wAl 133 = 4 := by decide +kernel
  have loop : ∀ (f k : Nat), k + f = 4 → ∀ M3 o1, Fr [134, 135, 136, 137] M2 M3 → (∀ i j, i < k → j < 4 → M3 (134 + i) j = 0) → L_N_make_13 (d + 1) Q M3 o1 (k : Int) := by
    intro f
    induction f with
    | zero =>
      intro k hk M3 o1 f3 hall
      refine b_N_make_13 ⟨⟨by omega, by omega⟩, fun _ => ?_, fun z => absurd (by omega) z⟩
      refine hQ _ _ ⟨((f0.tr (f1.mono (by simp))).tr (f2.mono (by simp))).tr (f3.mono (by simp)), ?_, fun i hi => ?_, fun i hi => ?_, fun i j hi hj => hall i j (by omega) hj⟩
      · rw [f3 142 (by decide), f2 142 (by decide), f1 142 (by decide), g0]; omega
      · rw [f3 132 (by decide), f2 132 (by decide), g1, l132, if_pos hi]
      · rw [f3 133 (by decide), g2, l133, if_pos hi]
    | succ f ih =>
      intro k hk M3 o1 f3 hall
      refine b_N_make_13 ?_
      obtain ⟨r1, r2, r3⟩ := wra138 k (by omega)
      rw [Int.toNat_natCast, r1]
      refine ⟨⟨by omega, by omega⟩, fun z => absurd z (by omega), fun _ => ⟨⟨by omega, by omega⟩, ?_⟩⟩
      refine (s_fill (d := d) (r0 := 134 + k) (v := 0) r2).cal fun v4 M4 hM4 => ?_
      obtain ⟨f4, g4⟩ := hM4
      rw [show (k : Int) + 1 = ((k + 1 : Nat) : Int) by omega]
      refine ih (k + 1) (by omega) M4 _ (f3.tr (f4.mono fun a ha => by simp at ha ⊢; omega)) fun i j hi hj => ?_
      by_cases e : i = k
      · rw [e, g4, r3, if_pos hj]
      · rw [f4 (134 + i) (by simp; omega)]; exact hall i j (by omega) hj
  exact loop 4 0 (by omega) M2 _ Fr.rfl' fun i j h => absurd h (Nat.not_lt_zero i)
theorem s_Qnet {d : Nat} {M : Mem} {m : Int} (hm : R32 m) : PostE (d + 3) cQ_net [oQ, .inl m] M (fun r M' => (¬ (1 ≤ m ∧ m ≤ 4) ∧ r = .inr 2 ∧ M' = M) ∨ ((1 ≤ m ∧ m ≤ 4) ∧ r = .inl (M 142 0) ∧ Fr netC M M' ∧ NC M' m.toNat (fun _ => 0) (fun _ => 1) (fun _ _ => 0))) := by
  intro Q hQ
  refine e_Q_net (b_Q_net_0 ⟨hm, fun _ => hQ _ _ (Or.inl ⟨by omega, rfl, rfl⟩), fun _ => ⟨fun _ => ?_, fun _ => hQ _ _ (Or.inl ⟨by omega, rfl, rfl⟩)⟩⟩)
  refine (s_Nmake (d := d) (m := m) (by omega)).cal fun v1 M1 hM1 => ?_
  obtain ⟨f1, g1⟩ := hM1
  exact hQ _ _ (Or.inr ⟨by omega, rfl, f1, g1⟩)
theorem s_needNodes {d : Nat} {M : Mem} {n : Nat} {i j : Int} (hn : M 142 0 = n) (h4 : n ≤ 4) (hi : R32 i) (hj : R32 j) : PostE (d + 1) cQ_needNodes [oQ, .inl i, .inl j] M (fun r M' => (¬ inSt n i j ∧ r = .inr 4 ∧ M' = M) ∨ (inSt n i j ∧ r = .inl 0 ∧ M' = M)) := by
  intro Q hQ
  have no : ¬ inSt n i j → Q (.inr 4) M := fun h => hQ _ _ (Or.inl ⟨h, rfl, rfl⟩)
  refine e_Q_needNodes (b_Q_needNodes_0 ?_)
  rw [hn]
  exact ⟨hi, fun _ => no (by unfold inSt; omega), fun _ => ⟨⟨by omega, by omega⟩, fun _ => no (by unfold inSt; omega), fun _ => ⟨hj, fun _ => no (by unfold inSt; omega), fun _ => ⟨fun _ => hQ _ _ (Or.inr ⟨by unfold inSt; omega, rfl, rfl⟩), fun _ => no (by unfold inSt; omega)⟩⟩⟩⟩
def ndOk (c s : Int) : Prop := (0 ≤ c ∧ c ≤ 1000) ∧ 1 ≤ s ∧ s ≤ 1000
theorem nOk_node {n : Nat} {C S : Nat → Int} {A : Nat → Nat → Int} {c s : Int} {i : Nat} (h : nOk n C S A) (hs : ndOk c s) : nOk n (sr C i c) (sr S i s) A := by
  obtain ⟨h1, h2, h3, h4, h5⟩ := h
  refine ⟨h1, h2, h3, fun k hk => ?_, fun k hk => ?_⟩
  · by_cases e : k = i
    · rw [e, sr_same]; exact hs.1
    · rw [sr_ne e]; exact h4 k hk
  · by_cases e : k = i
    · rw [e, sr_same]; exact hs.2
    · rw [sr_ne e]; exact h5 k hk
theorem s_Qnode {d : Nat} {M : Mem} {n : Nat} {C S : Nat → Int} {A : Nat → Nat → Int} {i c s : Int} (hN : NC M n C S A) (hO : nOk n C S A) (hi : R32 i) (hc : R32 c) (hs : R32 s) : PostE (d + 2) cQ_node [oQ, .inl i, .inl c, .inl s] M (fun r M' => (¬ inSt n i i ∧ r = .inr 4 ∧ M' = M) ∨ (inSt n i i ∧ ¬ ndOk c s ∧ r = .inr 2 ∧ M' = M) ∨ (inSt n i i ∧ ndOk c s ∧ r = .inl (C i.toNat) ∧ Fr [132, 133] M M' ∧ NC M' n (sr C i.toNat c) (sr S i.toNat s) A)) := by
  intro Q hQ
  have h4 := hO.1
  refine e_Q_node (b_Q_node_0 ?_)
  refine (s_needNodes (d := d) hN.1 h4.2 hi hi).cal fun r1 M1 hM1 => ?_
  rcases hM1 with ⟨h1, rfl, rfl⟩ | ⟨h1, rfl, rfl⟩
  · exact hQ _ _ (Or.inl ⟨h1, rfl, rfl⟩)
  have no : ¬ ndOk c s → Q (.inr 2) M1 := fun h => hQ _ _ (Or.inr (Or.inl ⟨h1, h, rfl, rfl⟩))
  refine ⟨hc, fun _ => no (by unfold ndOk; omega), fun _ => ⟨fun _ => no (by unfold ndOk; omega), fun _ => ⟨hs, fun _ => no (by unfold ndOk; omega), fun _ => ⟨fun _ => ?_, fun _ => no (by unfold ndOk; omega)⟩⟩⟩⟩
  have hq := h1
  unfold inSt at hq
  obtain ⟨I, rfl⟩ : ∃ I : Nat, i = I := ⟨i.toNat, by omega⟩
  rw [Int.toNat_natCast] at hQ ⊢
  refine ⟨⟨by omega, by omega⟩, hQ _ _ (Or.inr (Or.inr ⟨h1, by unfold ndOk; omega, by rw [hN.2.1 I (by omega)], (Fr.rfl'.u2 (by simp)).u2 (by simp), ?_, fun k hk => ?_, fun k hk => ?_, fun k l hk hl => ?_⟩))⟩
  · rw [u2_off (by decide), u2_off (by decide)]; exact hN.1
  · rw [u2_off (by decide), u2_row]
    by_cases e : k = I
    · rw [e, sr_same, sr_same]
    · rw [sr_ne e, sr_ne e]; exact hN.2.1 k hk
  · rw [u2_row]
    by_cases e : k = I
    · rw [e, sr_same, sr_same]
    · rw [sr_ne e, sr_ne e, u2_off (by decide)]; exact hN.2.2.1 k hk
  · rw [u2_off (by omega), u2_off (by omega)]; exact hN.2.2.2 k l hk hl