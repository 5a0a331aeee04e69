/-- the rate that comes is not above the least rate -/
def eBd (a p : Int) (n : Nat) (B P : Nat → Int) : Prop := 0 < n ∧ a * P (eBest B P n) ≤ B (eBest B P n) * p
/-- the bound on the delay, or on what waits -/
def eBound (k b a p : Int) (n : Nat) (L B P : Nat → Int) : Rat := if k = 0 then mkRat (eSum L n * B (eBest B P n) + b * P (eBest B P n)) (B (eBest B P n)).toNat else mkRat (b * p + a * eSum L n) p.toNat
theorem s_Qbound {d : Nat} {M : Mem} {b a p k : Int} {n : Nat} {L B P : Nat → Int} {q0 : Rat} (hE : CE M b a p n L B P) (hO : eOk b a p n L B P) (hk : R32 k) (hq0 : CF M q0) : PostE (d + 5) cQ_bound [oQ, .inl k] M (fun r M' => (¬ eBd a p n B P ∧ r = .inr 5 ∧ M' = M) ∨ (eBd a p n B P ∧ Fr [0, 1, 2, 3] M M' ∧ CF M' (eBound k b a p n L B P) ∧ r = .inl (eBound k b a p n L B P).num.sign)) := by
  intro Q hQ
  obtain ⟨c0, c1, c2, c3, c4, c5⟩ := hE
  obtain ⟨o1, o2, o3, o4, o5⟩ := hO
  have r3 : R32 (M 143 3) := by rw [c3]; exact ⟨by omega, by omega⟩
  refine e_Q_bound (b_Q_bound_0 ?_)
  refine e_E_isBounded (b_E_isBounded_0 ⟨r3, fun z => ?_, fun z => ?_⟩)
  · exact ⟨⟨by decide, by decide⟩, fun h => absurd rfl h, fun _ => hQ _ _ (Or.inl ⟨fun h => by have := h.1; omega, rfl, rfl⟩)⟩
  · have hn0 : 0 < n := by omega
    obtain ⟨d5, d6⟩ := c5 hn0
    have hlt := eBest_lt (B := B) (P := P) n hn0
    obtain ⟨_, q2, q3⟩ := o5 _ hlt
    have sR := eSum_r (L := L) n fun i hi => (o5 i hi).1
    unfold eBound eBd at hQ
    rw [c1, c2, d5, d6]
    clear c5
    generalize hB : B (eBest B P n) = vb at *
    generalize hP : P (eBest B P n) = vp at *
    generalize hS : eSum L n = vs at *
    have w1 := prod_r (x := a) (y := vp) (k := 99) ⟨by omega, by omega⟩ ⟨by omega, by omega⟩
    have w2 := prod_r (x := vb) (y := p) (k := 99) ⟨by omega, by omega⟩ ⟨by omega, by omega⟩
    refine ⟨⟨by omega, by omega⟩, ⟨by omega, by omega⟩, fun z1 => ?_, fun z1 => ?_⟩
    · exact ⟨⟨by decide, by decide⟩, fun h => absurd rfl h, fun _ => hQ _ _ (Or.inl ⟨fun h => by have := h.2; omega, rfl, rfl⟩)⟩
    · refine ⟨⟨by decide, by decide⟩, fun _ => ⟨hk, fun z2 => ?_, fun z2 => ?_⟩, fun h => absurd (by decide) h⟩
      · refine e_E_delayBound (b_E_delayBound_0 ?_)
        rw [c0, c4, d5, d6]
        rw [if_pos z2] at hQ
        have w3 := prod_r (x := vs) (y := vb) (k := 396) ⟨by omega, by omega⟩ ⟨by omega, by omega⟩
        have w4 := prod_r (x := b) (y := vp) (k := 999) ⟨by omega, by omega⟩ ⟨by omega, by omega⟩
        rw [show max vb 1 = vb by omega]
        refine ⟨⟨by omega, by omega⟩, ⟨by omega, by omega⟩, ⟨by omega, by omega⟩, ⟨by omega, by omega⟩, ⟨by omega, by omega⟩, ?_⟩
        obtain ⟨x, hx⟩ : ∃ x : Nat, vs * vb + b * vp = x := ⟨(vs * vb + b * vp).toNat, by omega⟩
        obtain ⟨y, hy⟩ : ∃ y : Nat, vb = y := ⟨vb.toNat, by omega⟩
        rw [hx, hy] at hQ ⊢
        rw [Int.toNat_natCast] at hQ
        refine (s_setLongsQ (d := d) (by omega) (by omega) (by omega) hq0.rz0 hq0.rz2).cal fun v5 M5 hM5 => ?_
        obtain ⟨f5, k5, rfl⟩ := hM5
        exact hQ _ _ (Or.inr ⟨⟨hn0, by rw [← hy]; omega⟩, f5, k5, rfl⟩)
      · refine e_E_bufferBound (b_E_bufferBound_0 ?_)
        rw [c0, c1, c2, c4]
        rw [if_neg z2] at hQ
        have w3 := prod_r (x := b) (y := p) (k := 999) ⟨by omega, by omega⟩ ⟨by omega, by omega⟩
        have w4 := prod_r (x := vs) (y := a) (k := 396) ⟨by omega, by omega⟩ ⟨by omega, by omega⟩
        rw [Int.mul_comm vs a] at w4
        rw [show max p 1 = p by omega]
        refine ⟨⟨by omega, by omega⟩, ⟨by omega, by omega⟩, ⟨by omega, by omega⟩, ⟨by omega, by omega⟩, ⟨by omega, by omega⟩, ?_⟩
        obtain ⟨x, hx⟩ : ∃ x : Nat, b * p + a * vs = x := ⟨(b * p + a * vs).toNat, by omega⟩
        obtain ⟨y, hy⟩ : ∃ y : Nat, p = y := ⟨p.toNat, by omega⟩
        rw [hx] at hQ ⊢
        rw [hy] at z1 hQ ⊢
        rw [Int.toNat_natCast] at hQ
        refine (s_setLongsQ (d := d) (by omega) (by omega) (by omega) hq0.rz0 hq0.rz2).cal fun v5 M5 hM5 => ?_
        obtain ⟨f5, k5, rfl⟩ := hM5
        exact hQ _ _ (Or.inr ⟨⟨hn0, by omega⟩, f5, k5, rfl⟩)