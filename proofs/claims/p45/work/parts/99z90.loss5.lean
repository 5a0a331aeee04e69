/-! Loss: the ops of the class. -/
/-- beyond a Big's length stand zeros -/
def AZ (M : Mem) : Prop := ∀ r, IsBig r → RZ M r
theorem AZ.fr {M M' : Mem} {l : List Nat} (h : AZ M) (hf : Fr l M M') (h2 : ∀ r, IsBig r → r + 1 ∈ l → RZ M' r) : AZ M' := by
  intro r hr
  by_cases e : r + 1 ∈ l
  · exact h2 r hr e
  · exact (h r hr).kept hf e
theorem s_QlostShare {d : Nat} {M : Mem} {n a b : Int} (hz : AZ M) (hn : R32 n) (ha : R32 a) (hb : R32 b) : PostE (d + 7) cQ_lostShare [oQ, .inl n, .inl a, .inl b] M (fun r M' => (¬ ((0 ≤ n ∧ n ≤ 30) ∧ fracOk a b) ∧ r = .inr 2 ∧ M' = M) ∨ (((0 ≤ n ∧ n ≤ 30) ∧ fracOk a b) ∧ Fr [0, 1, 2, 3, 4, 5, 6, 7, 8, 9, 40, 41, 42, 43, 131] M M' ∧ AZ M' ∧ CF M' (lossF (mkRat a b.toNat) n.toNat) ∧ r = .inl (lossF (mkRat a b.toNat) n.toNat).num.sign)) := by
  intro Q hQ
  have no : ¬ ((0 ≤ n ∧ n ≤ 30) ∧ fracOk a b) → Q (.inr 2) M := fun h => hQ _ _ (Or.inl ⟨h, rfl, rfl⟩)
  refine e_Q_lostShare (b_Q_lostShare_0 ⟨hn, fun _ => no fun h => by have := h.1; omega, fun _ => ⟨fun _ => ?_, fun _ => no fun h => by have := h.1; omega⟩⟩)
  refine (s_needFraction (d := d + 5) ha hb).cal fun r1 M1 hM1 => ?_
  rcases hM1 with ⟨h1, rfl, rfl⟩ | ⟨h1, rfl, rfl⟩
  · exact no fun h => h1 h.2
  obtain ⟨q1, q2⟩ := h1
  obtain ⟨N, rfl⟩ : ∃ N : Nat, n = N := ⟨n.toNat, by omega⟩
  obtain ⟨A, rfl⟩ : ∃ A : Nat, a = A := ⟨a.toNat, by omega⟩
  obtain ⟨B, rfl⟩ : ∃ B : Nat, b = B := ⟨b.toNat, by omega⟩
  simp only [Int.toNat_natCast] at hQ
  have ok : (0 ≤ (N : Int) ∧ (N : Int) ≤ 30) ∧ fracOk (A : Int) B := ⟨by omega, q1, q2⟩
  have hg : 0 < Nat.gcd A B := Nat.gcd_pos_of_pos_right _ (by omega)
  have hx1 : A / Nat.gcd A B ≤ A := Nat.div_le_self _ _
  have hy1 : B / Nat.gcd A B ≤ B := Nat.div_le_self _ _
  have hy2 : 0 < B / Nat.gcd A B := Nat.div_pos (Nat.gcd_le_right _ (by omega)) hg
  have er : mkRat (A : Int) B = mkRat ((A / Nat.gcd A B : Nat) : Int) (B / Nat.gcd A B) := mk_red (by omega)
  refine (s_Lstart (d := d + 3) (x := A) (y := B) (by omega) (by omega) (hz 40 bI40) (hz 42 bI42)).cal fun v2 M2 hM2 => ?_
  obtain ⟨f2, k2⟩ := hM2
  rw [er] at hQ
  generalize A / Nat.gcd A B = x at *
  generalize B / Nat.gcd A B = y at *
  have loop : ∀ (m k : Nat), k + m = N → ∀ M3 o2 o3, Fr [40, 41, 42, 43, 131] M1 M3 → LoS M3 x y k → L_Q_lostShare_16_k1 (d + 6) Q M3 (N : Int) o2 o3 (((k + 1 : Nat)) : Int) := by
    intro m
    induction m with
    | zero =>
      intro k hk M3 o2 o3 f g
      have hk : k = N := by omega
      subst hk
      refine b_Q_lostShare_16_k1 ⟨⟨by omega, by omega⟩, ⟨by omega, by omega⟩, fun _ => ?_, fun z => absurd (by omega) z⟩
      obtain ⟨g1, g2, _, _⟩ := g
      obtain ⟨b1, b2⟩ := eA_b (x := x) (y := y) (k := k) (by omega) (by omega) (by omega)
      obtain ⟨p1, p2, p3⟩ := p150b
      refine (s_setBigsQ (d := d) bI40 bI42 (by decide) (by decide) g1 g2 (fun r hr => ?_) (by omega) (by omega) (eA_pos hy2 k)).cal fun v4 M4 hM4 => ?_
      · have hb : IsBig r := by rcases hr with rfl | rfl | rfl | rfl | rfl <;> exact ⟨by decide, by decide⟩
        exact (hz r hb).kept f (by simp; omega)
      · obtain ⟨f4, k4, k5, rfl⟩ := hM4
        have e1 := (lossF_mk (x := x) hy2 k).1
        rw [e1] at hQ
        have F : Fr [0, 1, 2, 3, 4, 5, 6, 7, 8, 9, 40, 41, 42, 43, 131] M1 M4 := (f.mono (by simp)).tr (f4.mono (by simp))
        refine hQ _ _ (Or.inr ⟨ok, F, hz.fr F fun r hr hm => ?_, k4, rfl⟩)
        have hc : r = 0 ∨ r = 2 ∨ (r = 4 ∨ r = 6 ∨ r = 8) ∨ r = 40 ∨ r = 42 := by
          obtain ⟨hr1, hr2⟩ := hr
          simp at hm
          omega
        rcases hc with rfl | rfl | h | rfl | rfl
        · exact k4.rz0
        · exact k4.rz2
        · exact k5 r h
        · exact (f4.big g1 (by decide) (by decide)).rz
        · exact (f4.big g2 (by decide) (by decide)).rz
    | succ m ih =>
      intro k hk M3 o2 o3 f g
      refine b_Q_lostShare_16_k1 ⟨⟨by omega, by omega⟩, ⟨by omega, by omega⟩, fun z => absurd z (by omega), fun _ => ?_⟩
      have st := s_LaddServer (d := d + 3) (x := x) (y := y) (k := k) (by omega) (by omega) (by omega) g
      rw [show (k : Int) + 1 = ((k + 1 : Nat) : Int) by omega] at st
      refine st.cal fun v4 M4 hM4 => ?_
      obtain ⟨f4, g4⟩ := hM4
      have := ih (k + 1) (by omega) M4 o2 (clr o3) (f.tr (f4.mono (by simp))) g4
      rw [show ((k + 1 + 1 : Nat) : Int) = ((k + 1 : Nat) : Int) + 1 by omega] at this
      exact this
  exact loop N 0 (by omega) M2 _ _ f2 k2
theorem s_QserversFor {d : Nat} {M : Mem} {a b c e : Int} (hz : AZ M) (ha : R32 a) (hb : R32 b) (hc : R32 c) (he : R32 e) : PostE (d + 4) cQ_serversFor [oQ, .inl a, .inl b, .inl c, .inl e] M (fun r M' => (¬ (fracOk a b ∧ fracOk c e) ∧ r = .inr 2 ∧ M' = M) ∨ ((fracOk a b ∧ fracOk c e) ∧ Fr [40, 41, 42, 43, 44, 45, 46, 47, 131] M M' ∧ AZ M' ∧ ((∃ n : Nat, n ≤ 30 ∧ r = .inl (n : Int) ∧ lossF (mkRat a b.toNat) n ≤ mkRat c e.toNat ∧ ∀ k, k < n → ¬ lossF (mkRat a b.toNat) k ≤ mkRat c e.toNat) ∨ (r = .inr 5 ∧ ∀ k, k ≤ 30 → ¬ lossF (mkRat a b.toNat) k ≤ mkRat c e.toNat)))) := by
  intro Q hQ
  have no : ¬ (fracOk a b ∧ fracOk c e) → Q (.inr 2) M := fun h => hQ _ _ (Or.inl ⟨h, rfl, rfl⟩)
  refine e_Q_serversFor (b_Q_serversFor_0 ?_)
  refine (s_needFraction (d := d + 2) ha hb).cal fun r1 M1 hM1 => ?_
  rcases hM1 with ⟨h1, rfl, rfl⟩ | ⟨h1, rfl, rfl⟩
  · exact no fun h => h1 h.1
  refine (s_needFraction (d := d + 2) hc he).cal fun r1 M1 hM1 => ?_
  rcases hM1 with ⟨h3, rfl, rfl⟩ | ⟨h3, rfl, rfl⟩
  · exact no fun h => h3 h.2
  obtain ⟨q1, q2⟩ := h1
  obtain ⟨q3, q4⟩ := h3
  obtain ⟨A, rfl⟩ : ∃ A : Nat, a = A := ⟨a.toNat, by omega⟩
  obtain ⟨B, rfl⟩ : ∃ B : Nat, b = B := ⟨b.toNat, by omega⟩
  obtain ⟨C, rfl⟩ : ∃ C : Nat, c = C := ⟨c.toNat, by omega⟩
  obtain ⟨E, rfl⟩ : ∃ E : Nat, e = E := ⟨e.toNat, by omega⟩
  simp only [Int.toNat_natCast] at hQ
  have ok : fracOk (A : Int) B ∧ fracOk (C : Int) E := ⟨⟨q1, q2⟩, q3, q4⟩
  have hg : 0 < Nat.gcd A B := Nat.gcd_pos_of_pos_right _ (by omega)
  have hx1 : A / Nat.gcd A B ≤ A := Nat.div_le_self _ _
  have hy1 : B / Nat.gcd A B ≤ B := Nat.div_le_self _ _
  have hy2 : 0 < B / Nat.gcd A B := Nat.div_pos (Nat.gcd_le_right _ (by omega)) hg
  have er : mkRat (A : Int) B = mkRat ((A / Nat.gcd A B : Nat) : Int) (B / Nat.gcd A B) := mk_red (by omega)
  refine (s_Lstart (d := d) (x := A) (y := B) (by omega) (by omega) (hz 40 bI40) (hz 42 bI42)).cal fun v2 M2 hM2 => ?_
  obtain ⟨f2, k2⟩ := hM2
  rw [er] at hQ
  generalize A / Nat.gcd A B = x at *
  generalize B / Nat.gcd A B = y at *
  have test : ∀ k, lossF (mkRat (x : Int) y) k ≤ mkRat (C : Int) E ↔ ((eL x k : Nat) : Int) * E ≤ ((eA x y k : Nat) : Int) * C := by
    intro k
    rw [(lossF_mk (x := x) hy2 k).1]
    exact mkRat_le (eA_pos hy2 k) (by omega)
  simp only [test] at hQ
  have toAZ : ∀ {M3 : Mem} {k : Nat}, Fr [40, 41, 42, 43, 44, 45, 46, 47, 131] M1 M3 → LoS M3 x y k → RZ M3 44 → RZ M3 46 → AZ M3 := by
    intro M3 k f g h4 h6
    refine hz.fr f fun r hr hm => ?_
    have hcc : r = 40 ∨ r = 42 ∨ r = 44 ∨ r = 46 := by
      obtain ⟨hr1, hr2⟩ := hr
      simp at hm
      omega
    rcases hcc with rfl | rfl | rfl | rfl
    · exact g.1.rz
    · exact g.2.1.rz
    · exact h4
    · exact h6
  have loop : ∀ (m k : Nat), k + m = 31 → ∀ M3 o2 o3, Fr [40, 41, 42, 43, 44, 45, 46, 47, 131] M1 M3 → LoS M3 x y (k - 1) → RZ M3 44 → RZ M3 46 → (∀ j, j < k → ¬ ((eL x j : Nat) : Int) * E ≤ ((eA x y j : Nat) : Int) * C) → L_Q_serversFor_13_k2 (d + 3) Q M3 o2 o3 (C : Int) (E : Int) (k : Int) := by
    intro m
    induction m with
    | zero =>
      intro k hk M3 o2 o3 f g z4 z6 hall
      exact b_Q_serversFor_13_k2 ⟨⟨by omega, by omega⟩, fun _ => hQ _ _ (Or.inr ⟨ok, f, toAZ f g z4 z6, Or.inr ⟨rfl, fun j hj => hall j (by omega)⟩⟩), fun z => absurd (by omega) z⟩
    | succ m ih =>
      intro k hk M3 o2 o3 f g z4 z6 hall
      have after : ∀ (v : Int) (M4 : Mem), Fr [40, 41, 42, 43, 44, 45, 46, 47, 131] M1 M4 ∧ LoS M4 x y k ∧ RZ M4 44 ∧ RZ M4 46 ∧ ((v = 1 ∧ ((eL x k : Nat) : Int) * E ≤ ((eA x y k : Nat) : Int) * C) ∨ (v = 0 ∧ ¬ ((eL x k : Nat) : Int) * E ≤ ((eA x y k : Nat) : Int) * C)) → (R32 v) ∧ (((v = 0) → (L_Q_serversFor_13_k2 (d + 3) Q M4 o2 o3 (C : Int) (E : Int) ((k : Int) + 1))) ∧ (¬ (v = 0) → (Q (.inl (k : Int)) M4))) := by
        intro v M4 ⟨f4, g4, w4, w6, h⟩
        rcases h with ⟨rfl, h⟩ | ⟨rfl, h⟩
        · exact ⟨⟨by decide, by decide⟩, fun z => absurd z (by decide), fun _ => hQ _ _ (Or.inr ⟨ok, f4, toAZ f4 g4 w4 w6, Or.inl ⟨k, by omega, rfl, h, hall⟩⟩)⟩
        · refine ⟨⟨by decide, by decide⟩, fun _ => ?_, fun z => absurd rfl z⟩
          have := ih (k + 1) (by omega) M4 o2 o3 f4 g4 w4 w6 fun j hj => by
            by_cases ej : j = k
            · rw [ej]; exact h
            · exact hall j (by omega)
          rw [show ((k + 1 : Nat) : Int) = (k : Int) + 1 by omega] at this
          exact this
      refine b_Q_serversFor_13_k2 ⟨⟨by omega, by omega⟩, fun z => absurd z (by omega), fun _ => ⟨fun z => ?_, fun z => ?_⟩⟩
      · have hk0 : k = 0 := by omega
        subst hk0
        refine (s_LisAtMost (d := d) (x := x) (y := y) (k := 0) (a := C) (b := E) (by omega) (by omega) (by omega) g (by omega) (by omega) z4 z6).cal fun v4 M4 hM4 => ?_
        obtain ⟨f4, h4⟩ := hM4
        exact after v4 M4 ⟨f.tr (f4.mono (by simp)), h4⟩
      · have st := s_LaddServer (d := d) (x := x) (y := y) (k := k - 1) (by omega) (by omega) (by omega) g
        rw [show ((k - 1 : Nat) : Int) + 1 = (k : Int) by omega, show k - 1 + 1 = k by omega] at st
        refine st.cal fun v4 M4 hM4 => ?_
        obtain ⟨f4, g4⟩ := hM4
        refine (s_LisAtMost (d := d) (x := x) (y := y) (k := k) (a := C) (b := E) (by omega) (by omega) (by omega) g4 (by omega) (by omega) (z4.kept f4 (by decide)) (z6.kept f4 (by decide))).cal fun v5 M5 hM5 => ?_
        obtain ⟨f5, h5⟩ := hM5
        exact after v5 M5 ⟨(f.tr (f4.mono (by simp))).tr (f5.mono (by simp)), h5⟩
  exact loop 31 0 (by omega) M2 _ _ (f2.mono (by simp)) k2 ((hz 44 bI44).kept f2 (by decide)) ((hz 46 bI46).kept f2 (by decide)) (fun j hj => absurd hj (Nat.not_lt_zero j))
