theorem s_Mserver {d : Nat} {M : Mem} {b a p l sb sp : Int} {n : Nat} {L B P : Nat → Int} (hE : RE M b a p n L B P) (hO : n ≤ 4) (hl : R32 l) (hb : R32 sb) (hp : R32 sp) : Post (d + 2) cM_server [oM, .inl l, .inl sb, .inl sp] M (fun v M' => (¬ srvOk l sb sp ∧ M' = upd2 M 175 0 1) ∨ (srvOk l sb sp ∧ n = 4 ∧ M' = upd2 M 175 0 2) ∨ (srvOk l sb sp ∧ n < 4 ∧ v = ((n + 1 : Nat) : Int) ∧ M' 175 0 = 0 ∧ FC [158, 159, 160] [0, 27] M M' ∧ RE M' b a p (n + 1) (sr L n l) (sr B n sb) (sr P n sp))) := by
  intro Q hQ
  have R : ∀ x : Int, 0 ≤ x → x ≤ 1000 → R32 x := fun x h1 h2 => ⟨by omega, by omega⟩
  have no : ¬ srvOk l sb sp → cald (d + 1) cM_refuse [oM, .inl 1] M (fun r M2 => Rt r (fun v2 => Q (.inl v2) M2) (fun x => Q (.inr x) M2)) := fun h => (s_refuse (d := d)).cal fun v2 M2 hM2 => by
    obtain ⟨rfl, rfl⟩ := hM2
    exact hQ _ _ (Or.inl ⟨h, rfl⟩)
  unfold srvOk at no hQ
  obtain ⟨c0, c1, c2, c3, c4, c5, c6⟩ := hE
  refine e_M_server (b_M_server_0 ?_)
  refine (s_in (d := d) hl (R _ (by decide) (by decide)) (R _ (by decide) (by decide))).cal fun v1 M1 hM1 => ?_
  obtain ⟨rfl, ⟨rfl, g1, g2⟩ | ⟨rfl, g1⟩⟩ := hM1
  · refine ⟨⟨by decide, by decide⟩, fun z => absurd z (by decide), fun _ => ?_⟩
    refine (s_in (d := d) hb (R _ (by decide) (by decide)) (R _ (by decide) (by decide))).cal fun v1 M1 hM1 => ?_
    obtain ⟨rfl, ⟨rfl, g3, g4⟩ | ⟨rfl, g3⟩⟩ := hM1
    · refine ⟨⟨by decide, by decide⟩, fun z => absurd z (by decide), fun _ => ?_⟩
      refine (s_in (d := d) hp (R _ (by decide) (by decide)) (R _ (by decide) (by decide))).cal fun v1 M1 hM1 => ?_
      obtain ⟨rfl, ⟨rfl, g5, g6⟩ | ⟨rfl, g5⟩⟩ := hM1
      · refine ⟨⟨by decide, by decide⟩, fun _ => ⟨by rw [c3]; exact ⟨by omega, by omega⟩, fun z => ?_, fun z => ?_⟩, fun z => absurd (by decide) z⟩
        · rw [c3] at z ⊢
          refine ⟨⟨by omega, by omega⟩, ?_⟩
          rw [Int.toNat_natCast]
          refine (s_told (d := d)).cal fun v5 M5 hM5 => ?_
          obtain ⟨rfl, rfl⟩ := hM5
          refine hQ _ _ (Or.inr (Or.inr ⟨by omega, by omega, by omega, u2_same, ?_, ?_, ?_, ?_, ?_, ?_, ?_, ?_⟩))
          · exact ((((FC.rfl'.u2 (by simp) (by decide)).u2 (by simp) (by decide)).u2 (by simp) (by decide)).slot (by simp)).slot (by simp)
          · rw [u2_ne (by decide), u2_ne (by decide), u2_off (by decide), u2_off (by decide), u2_off (by decide)]; exact c0
          · rw [u2_ne (by decide), u2_ne (by decide), u2_off (by decide), u2_off (by decide), u2_off (by decide)]; exact c1
          · rw [u2_ne (by decide), u2_ne (by decide), u2_off (by decide), u2_off (by decide), u2_off (by decide)]; exact c2
          · rw [u2_ne (by decide), u2_same]; omega
          · rw [u2_off (by decide), u2_off (by decide), u2_off (by decide), u2_off (by decide), u2_row, c4]
          · rw [u2_off (by decide), u2_off (by decide), u2_off (by decide), u2_row, u2_off (by decide), c5]
          · rw [u2_off (by decide), u2_off (by decide), u2_row, u2_off (by decide), u2_off (by decide), c6]
        · rw [c3] at z
          refine (s_refuse (d := d)).cal fun v2 M2 hM2 => ?_
          obtain ⟨rfl, rfl⟩ := hM2
          exact hQ _ _ (Or.inr (Or.inl ⟨by omega, by omega, rfl⟩))
      · exact ⟨⟨by decide, by decide⟩, fun z => absurd rfl z, fun _ => no (by omega)⟩
    · exact ⟨⟨by decide, by decide⟩, fun _ => no (by omega), fun z => absurd rfl z⟩
  · exact ⟨⟨by decide, by decide⟩, fun _ => no (by omega), fun z => absurd rfl z⟩
/-- the rate that comes is not above the least rate -/
def eBd (a p : Int) (n : Nat) (B P : Nat → Int) : Prop := 0 < n ∧ a * P (eBest B P n) ≤ B (eBest B P n) * p
/-- the bound on the delay, or on what waits -/
def eBound (k b a p : Int) (n : Nat) (L B P : Nat → Int) : Rat := if k = 0 then mkRat (eSum L n * B (eBest B P n) + b * P (eBest B P n)) (B (eBest B P n)).toNat else mkRat (b * p + a * eSum L n) p.toNat
theorem s_Qbound {d : Nat} {M : Mem} {b a p k : Int} {n : Nat} {L B P : Nat → Int} {q0 : Rat} (hE : CE M b a p n L B P) (hO : eOk b a p n L B P) (hk : R32 k) (hq0 : CF M q0) : PostE (d + 5) cQ_bound [oQ, .inl k] M (fun r M' => (¬ eBd a p n B P ∧ r = .inr 5 ∧ M' = M) ∨ (eBd a p n B P ∧ Fr [0, 1, 2, 3] M M' ∧ CF M' (eBound k b a p n L B P) ∧ r = .inl (eBound k b a p n L B P).num.sign)) := by
  intro Q hQ
  obtain ⟨c0, c1, c2, c3, c4, c5⟩ := hE
  obtain ⟨o1, o2, o3, o4, o5⟩ := hO
  have r3 : R32 (M 143 3) := by rw [c3]; exact ⟨by omega, by omega⟩
  refine e_Q_bound (b_Q_bound_0 ?_)
  refine e_E_isBounded (b_E_isBounded_0 ⟨r3, fun z => ?_, fun z => ?_⟩)
  · exact ⟨⟨by decide, by decide⟩, fun h => absurd rfl h, fun _ => hQ _ _ (Or.inl ⟨fun h => by have := h.1; omega, rfl, rfl⟩)⟩
  · have hn0 : 0 < n := by omega
    obtain ⟨d5, d6⟩ := c5 hn0
    have hlt := eBest_lt (B := B) (P := P) n hn0
    obtain ⟨_, q2, q3⟩ := o5 _ hlt
    have sR := eSum_r (L := L) n fun i hi => (o5 i hi).1
    unfold eBound eBd at hQ
    rw [c1, c2, d5, d6]
    clear c5
    generalize hB : B (eBest B P n) = vb at *
    generalize hP : P (eBest B P n) = vp at *
    generalize hS : eSum L n = vs at *
    have w1 := prod_r (x := a) (y := vp) (k := 99) ⟨by omega, by omega⟩ ⟨by omega, by omega⟩
    have w2 := prod_r (x := vb) (y := p) (k := 99) ⟨by omega, by omega⟩ ⟨by omega, by omega⟩
    refine ⟨⟨by omega, by omega⟩, ⟨by omega, by omega⟩, fun z1 => ?_, fun z1 => ?_⟩
    · exact ⟨⟨by decide, by decide⟩, fun h => absurd rfl h, fun _ => hQ _ _ (Or.inl ⟨fun h => by have := h.2; omega, rfl, rfl⟩)⟩
    · refine ⟨⟨by decide, by decide⟩, fun _ => ⟨hk, fun z2 => ?_, fun z2 => ?_⟩, fun h => absurd (by decide) h⟩
      · refine e_E_delayBound (b_E_delayBound_0 ?_)
        rw [c0, c4, d5, d6]
        rw [if_pos z2] at hQ
        have w3 := prod_r (x := vs) (y := vb) (k := 396) ⟨by omega, by omega⟩ ⟨by omega, by omega⟩
        have w4 := prod_r (x := b) (y := vp) (k := 999) ⟨by omega, by omega⟩ ⟨by omega, by omega⟩
        rw [show max vb 1 = vb by omega]
        refine ⟨⟨by omega, by omega⟩, ⟨by omega, by omega⟩, ⟨by omega, by omega⟩, ⟨by omega, by omega⟩, ⟨by omega, by omega⟩, ?_⟩
        obtain ⟨x, hx⟩ : ∃ x : Nat, vs * vb + b * vp = x := ⟨(vs * vb + b * vp).toNat, by omega⟩
        obtain ⟨y, hy⟩ : ∃ y : Nat, vb = y := ⟨vb.toNat, by omega⟩
        rw [hx, hy] at hQ ⊢
        rw [Int.toNat_natCast] at hQ
        refine (s_setLongsQ (d := d) (by omega) (by omega) (by omega) hq0.rz0 hq0.rz2).cal fun v5 M5 hM5 => ?_
        obtain ⟨f5, k5, rfl⟩ := hM5
        exact hQ _ _ (Or.inr ⟨⟨hn0, by rw [← hy]; omega⟩, f5, k5, rfl⟩)
      · refine e_E_bufferBound (b_E_bufferBound_0 ?_)
        rw [c0, c1, c2, c4]
        rw [if_neg z2] at hQ
        have w3 := prod_r (x := b) (y := p) (k := 999) ⟨by omega, by omega⟩ ⟨by omega, by omega⟩
        have w4 := prod_r (x := vs) (y := a) (k := 396) ⟨by omega, by omega⟩ ⟨by omega, by omega⟩
        rw [Int.mul_comm vs a] at w4
        rw [show max p 1 = p by omega]
        refine ⟨⟨by omega, by omega⟩, ⟨by omega, by omega⟩, ⟨by omega, by omega⟩, ⟨by omega, by omega⟩, ⟨by omega, by omega⟩, ?_⟩
        obtain ⟨x, hx⟩ : ∃ x : Nat, b * p + a * vs = x := ⟨(b * p + a * vs).toNat, by omega⟩
        obtain ⟨y, hy⟩ : ∃ y : Nat, p = y := ⟨p.toNat, by omega⟩
        rw [hx] at hQ ⊢
        rw [hy] at z1 hQ ⊢
        rw [Int.toNat_natCast] at hQ
        refine (s_setLongsQ (d := d) (by omega) (by omega) (by omega) hq0.rz0 hq0.rz2).cal fun v5 M5 hM5 => ?_
        obtain ⟨f5, k5, rfl⟩ := hM5
        exact hQ _ _ (Or.inr ⟨⟨hn0, by omega⟩, f5, k5, rfl⟩)
theorem s_Mbound {d : Nat} {M : Mem} {b a p k : Int} {n : Nat} {L B P : Nat → Int} (hE : RE M b a p n L B P) (hO : eOk b a p n L B P) (hk : R32 k) : Post (d + 6) cM_bound [oM, .inl k] M (fun v M' => (¬ eBd a p n B P ∧ M' = upd2 M 175 0 1) ∨ (eBd a p n B P ∧ FM [] [0] [64, 80] M M' ∧ M' 175 0 = 0 ∧ FQ M' 80 (eBound k b a p n L B P) ∧ v = (eBound k b a p n L B P).num.sign)) := by
  intro Q hQ
  obtain ⟨c0, c1, c2, c3, c4, c5, c6⟩ := hE
  obtain ⟨o1, o2, o3, o4, o5⟩ := hO
  have no : ¬ eBd a p n B P → cald (d + 5) cM_refuse [oM, .inl 1] M (fun r M2 => Rt r (fun v2 => Q (.inl v2) M2) (fun x => Q (.inr x) M2)) := fun h => (s_refuse (d := d + 4)).cal fun v2 M2 hM2 => by
    obtain ⟨rfl, rfl⟩ := hM2
    exact hQ _ _ (Or.inl ⟨h, rfl⟩)
  have loop : ∀ (m i : Nat), i + m = n → L_M_bound_6 (d + 5) Q M k (eSum L i) ((eBest B P i : Nat) : Int) (i : Int) := by
    intro m
    induction m with
    | zero =>
      intro i hi
      have hi : i = n := by omega
      subst hi
      refine b_M_bound_6 ?_
      rw [c0, c1, c2, c3, c5, c6, Int.toNat_natCast]
      refine ⟨⟨by omega, by omega⟩, ⟨by omega, by omega⟩, fun _ => ⟨fun z => no fun h => by have := h.1; omega, fun z => ?_⟩, fun h => absurd (Int.le_refl _) h⟩
      have hn0 : 0 < i := by omega
      have hlt := eBest_lt (B := B) (P := P) i hn0
      obtain ⟨_, q2, q3⟩ := o5 _ hlt
      have sR := eSum_r (L := L) i fun j hj => (o5 j hj).1
      unfold eBound eBd at hQ
      unfold eBd at no
      have hlt4 : ((eBest B P i : Nat) : Int) < 4 := by omega
      generalize hB : B (eBest B P i) = vb at *
      generalize hP : P (eBest B P i) = vp at *
      generalize hS : eSum L i = vs at *
      have w1 := prod_r (x := a) (y := vp) (k := 99) ⟨by omega, by omega⟩ ⟨by omega, by omega⟩
      have w2 := prod_r (x := vb) (y := p) (k := 99) ⟨by omega, by omega⟩ ⟨by omega, by omega⟩
      refine ⟨⟨by omega, hlt4⟩, ⟨by omega, by omega⟩, ⟨by omega, by omega⟩, fun z1 => ⟨hk, fun z2 => ?_, fun z2 => ?_⟩, fun z1 => no fun h => z1 h.2⟩
      · rw [if_pos z2] at hQ
        have w3 := prod_r (x := vs) (y := vb) (k := 396) ⟨by omega, by omega⟩ ⟨by omega, by omega⟩
        have w4 := prod_r (x := b) (y := vp) (k := 999) ⟨by omega, by omega⟩ ⟨by omega, by omega⟩
        refine ⟨⟨by omega, by omega⟩, ⟨by omega, by omega⟩, ⟨by omega, by omega⟩, ⟨by omega, by omega⟩, ?_⟩
        obtain ⟨y, hy⟩ : ∃ y : Nat, vb = y := ⟨vb.toNat, by omega⟩
        have hx : 0 ≤ vs * vb + b * vp ∧ vs * vb + b * vp < 9223372036854775808 := by omega
        generalize vs * vb + b * vp = x at *
        rw [hy] at hQ z1 ⊢
        rw [Int.toNat_natCast] at hQ
        refine (s_sets (d := d) (i := 64) (by decide) (by omega) (by omega) (by omega)).cal fun v4 M4 hM4 => ?_
        obtain ⟨f4, k4⟩ := hM4
        refine (s_comesTo (d := d + 2) (a := 64) (by decide) (by decide) k4).cal fun v5 M5 hM5 => ?_
        obtain ⟨f5, k5, k6, rfl⟩ := hM5
        exact hQ _ _ (Or.inr ⟨⟨hn0, z1⟩, (f4.fm.mono (by simp) (by simp) (by simp)).tr (f5.mono (by simp) (by simp) (by simp)), k6, k5, rfl⟩)
      · rw [if_neg z2] at hQ
        have w3 := prod_r (x := b) (y := p) (k := 999) ⟨by omega, by omega⟩ ⟨by omega, by omega⟩
        have w4 := prod_r (x := vs) (y := a) (k := 396) ⟨by omega, by omega⟩ ⟨by omega, by omega⟩
        rw [Int.mul_comm vs a] at w4
        refine ⟨⟨by omega, by omega⟩, ⟨by omega, by omega⟩, ⟨by omega, by omega⟩, ⟨by omega, by omega⟩, ?_⟩
        obtain ⟨y, hy⟩ : ∃ y : Nat, p = y := ⟨p.toNat, by omega⟩
        have hx : 0 ≤ b * p + a * vs ∧ b * p + a * vs < 9223372036854775808 := by omega
        generalize b * p + a * vs = x at *
        rw [hy] at hQ z1 ⊢
        rw [Int.toNat_natCast] at hQ
        refine (s_sets (d := d) (i := 64) (by decide) (by omega) (by omega) (by omega)).cal fun v4 M4 hM4 => ?_
        obtain ⟨f4, k4⟩ := hM4
        refine (s_comesTo (d := d + 2) (a := 64) (by decide) (by decide) k4).cal fun v5 M5 hM5 => ?_
        obtain ⟨f5, k5, k6, rfl⟩ := hM5
        exact hQ _ _ (Or.inr ⟨⟨hn0, z1⟩, (f4.fm.mono (by simp) (by simp) (by simp)).tr (f5.mono (by simp) (by simp) (by simp)), k6, k5, rfl⟩)
    | succ m ih =>
      intro i hi
      refine b_M_bound_6 ?_
      rw [c3, c4, c5, c6, Int.toNat_natCast, Int.toNat_natCast]
      have hlt : eBest B P i ≤ i := by
        by_cases e : i = 0
        · subst e; exact Nat.le_refl 0
        · exact Nat.le_of_lt (eBest_lt i (by omega))
      obtain ⟨_, q2, q3⟩ := o5 (eBest B P i) (by omega)
      obtain ⟨_, u2, u3⟩ := o5 i (by omega)
      have w1 := prod_r (x := B i) (y := P (eBest B P i)) (k := 99) ⟨by omega, by omega⟩ ⟨by omega, by omega⟩
      have w2 := prod_r (x := B (eBest B P i)) (y := P i) (k := 99) ⟨by omega, by omega⟩ ⟨by omega, by omega⟩
      have nx := ih (i + 1) (by omega)
      rw [show ((i + 1 : Nat) : Int) = (i : Int) + 1 by omega] at nx
      have eb : eBest B P (i + 1) = if B (eBest B P i) * P i ≤ B i * P (eBest B P i) then eBest B P i else i := rfl
      refine ⟨⟨by omega, by omega⟩, ⟨by omega, by omega⟩, fun z => absurd z (by omega), fun _ => ⟨⟨by omega, by omega⟩, ⟨by omega, by omega⟩, ⟨by omega, by omega⟩, ⟨by omega, by omega⟩, fun z1 => ?_, fun z1 => ?_⟩⟩
      · rw [if_pos z1] at eb
        rw [eb] at nx
        exact nx
      · rw [if_neg z1] at eb
        rw [eb] at nx
        exact nx
  exact e_M_bound (b_M_bound_0 (loop n 0 (by omega)))
