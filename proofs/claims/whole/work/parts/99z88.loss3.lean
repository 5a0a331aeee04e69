/-! Loss: the reference, and the ops of both. -/
def fracOk (a b : Int) : Prop := (0 ≤ a ∧ a ≤ 999) ∧ 1 ≤ b ∧ b ≤ 999
theorem s_needFraction {d : Nat} {M : Mem} {a b : Int} (ha : R32 a) (hb : R32 b) : PostE (d + 1) cQ_needFraction [.inl a, .inl b] M (fun r M' => (¬ fracOk a b ∧ r = .inr 2 ∧ M' = M) ∨ (fracOk a b ∧ r = .inl 0 ∧ M' = M)) := by
  intro Q hQ
  have no : ¬ fracOk a b → Q (.inr 2) M := fun h => hQ _ _ (Or.inl ⟨h, rfl, rfl⟩)
  unfold fracOk at no hQ
  exact e_Q_needFraction (b_Q_needFraction_0 ⟨ha, fun _ => no (by omega), fun _ => ⟨fun _ => no (by omega), fun _ => ⟨hb, fun _ => no (by omega), fun _ => ⟨fun _ => hQ _ _ (Or.inr ⟨by omega, rfl, rfl⟩), fun _ => no (by omega)⟩⟩⟩⟩)
theorem s_isFraction {d : Nat} {M : Mem} {a b : Int} (ha : R32 a) (hb : R32 b) : Post (d + 2) cM_isFraction [.inl a, .inl b] M (fun v M' => M' = M ∧ ((v = 1 ∧ fracOk a b) ∨ (v = 0 ∧ ¬ fracOk a b))) := by
  intro Q hQ
  have R : ∀ x : Int, 0 ≤ x → x ≤ 1000 → R32 x := fun x h1 h2 => ⟨by omega, by omega⟩
  unfold fracOk at hQ
  refine e_M_isFraction (b_M_isFraction_0 ?_)
  refine (s_in (d := d) ha (R _ (by decide) (by decide)) (R _ (by decide) (by decide))).cal fun v1 M1 hM1 => ?_
  obtain ⟨rfl, ⟨rfl, g1, g2⟩ | ⟨rfl, g1⟩⟩ := hM1
  · refine ⟨⟨by decide, by decide⟩, fun z => absurd z (by decide), fun _ => ?_⟩
    refine (s_in (d := d) hb (R _ (by decide) (by decide)) (R _ (by decide) (by decide))).cal fun v1 M1 hM1 => ?_
    obtain ⟨rfl, ⟨rfl, g3, g4⟩ | ⟨rfl, g3⟩⟩ := hM1
    · exact ⟨⟨by decide, by decide⟩, fun z => absurd z (by decide), fun _ => hQ _ _ ⟨rfl, Or.inl ⟨rfl, by omega⟩⟩⟩
    · exact ⟨⟨by decide, by decide⟩, fun _ => hQ _ _ ⟨rfl, Or.inr ⟨rfl, by omega⟩⟩, fun z => absurd rfl z⟩
  · exact ⟨⟨by decide, by decide⟩, fun _ => hQ _ _ ⟨rfl, Or.inr ⟨rfl, by omega⟩⟩, fun z => absurd rfl z⟩
theorem mkRat_le {v w a b : Nat} (hw : 0 < w) (hb : 0 < b) : mkRat (v : Int) w ≤ mkRat (a : Int) b ↔ (v : Int) * b ≤ (w : Int) * a := by
  have hw' : (w : Int) ≠ 0 := by omega
  have hb' : (b : Int) ≠ 0 := by omega
  rw [Rat.le_iff_sub_nonneg, ← Rat.divInt_ofNat, ← Rat.divInt_ofNat, Rat.divInt_sub_divInt _ _ hb' hw', Rat.divInt_nonneg_iff_of_pos_right (Int.mul_pos (by omega) (by omega))]
  rw [Int.mul_comm (w : Int)]
  omega
theorem sign_sub_le {p q : Rat} : (p - q).num.sign ≤ 0 ↔ p ≤ q := by
  rw [Rat.le_iff_sub_nonneg, ← Rat.neg_sub, ← Rat.num_nonneg, Rat.neg_num]
  generalize (q - p).num = x
  rw [Int.sign_neg]
  rcases Int.lt_trichotomy x 0 with h | h | h
  · rw [Int.sign_eq_neg_one_of_neg h]; omega
  · rw [h]; decide
  · rw [Int.sign_eq_one_of_pos h]; omega
theorem sign_r (x : Int) : -1 ≤ x.sign ∧ x.sign ≤ 1 := by
  rcases sign_cases x with e | e | e <;> rw [e] <;> decide
theorem Bd_mk {v w k : Nat} (hw : 0 < w) (hv : (v : Int) < 10000 ^ k) (hw2 : (w : Int) < 10000 ^ k) : Bd (mkRat (v : Int) w) k := by
  obtain ⟨e1, e2, _, _⟩ := mkRat_parts (x := v) hw
  have h1 : v / Nat.gcd v w ≤ v := Nat.div_le_self _ _
  have h2 : w / Nat.gcd v w ≤ w := Nat.div_le_self _ _
  refine ⟨?_, ?_⟩
  · rw [e1, Int.natAbs_natCast]; omega
  · rw [e2]; omega
theorem nat_mk (n : Nat) : ((n : Nat) : Rat) = mkRat (n : Int) 1 := by
  rw [Rat.mkRat_eq_div]
  have n3 : ((n : Int) : Rat) = (n : Rat) := rfl
  have n4 : ((1 : Nat) : Rat) = 1 := rfl
  rw [n3, n4]
  generalize (n : Rat) = z
  grind
theorem mk_red {x y : Nat} (hy : 0 < y) : mkRat (x : Int) y = mkRat ((x / Nat.gcd x y : Nat) : Int) (y / Nat.gcd x y) := by
  have hg : 0 < Nat.gcd x y := Nat.gcd_pos_of_pos_right _ hy
  have h1 := Nat.div_mul_cancel (Nat.gcd_dvd_left x y)
  have h2 := Nat.div_mul_cancel (Nat.gcd_dvd_right x y)
  have e := Rat.mkRat_mul_right (n := ((x / Nat.gcd x y : Nat) : Int)) (d := y / Nat.gcd x y) (a := Nat.gcd x y) (by omega)
  rw [← Int.natCast_mul, h1, h2] at e
  exact e
theorem p156 : ((100000 ^ 31 : Nat) : Int) < 10000 ^ 39 ∧ ((100000 ^ 31 : Nat) : Int) * 999 < 10000 ^ 40 ∧ (10000 : Int) ^ 39 < 10000 ^ 40 ∧ (999 : Int) < 10000 ^ 1 := by decide +kernel
theorem Bd_loss {x y k : Nat} (hx : x ≤ 999) (hy : 0 < y ∧ y ≤ 999) (hk : k ≤ 31) : Bd (lossF (mkRat (x : Int) y) k) 39 := by
  obtain ⟨e1, _, _⟩ := lossF_mk (x := x) hy.1 k
  obtain ⟨b1, b2⟩ := eA_b hx hy hk
  obtain ⟨p1, p2, p3, p4⟩ := p156
  rw [e1]
  exact Bd_mk (eA_pos hy.1 k) (by omega) (by omega)
theorem s_addsServer {d : Nat} {M : Mem} {x y k : Nat} (hx : x ≤ 999) (hy : 0 < y ∧ y ≤ 999) (hk : k ≤ 30) (h : FQ M 81 (lossF (mkRat (x : Int) y) k)) : Post (d + 6) cM_addsServer [oM, .inl (((k + 1 : Nat) : Nat) : Int), .inl (x : Int), .inl (y : Int)] M (fun _ M' => FR [64, 65, 66, 81] M M' ∧ FQ M' 81 (lossF (mkRat (x : Int) y) (k + 1))) := by
  intro Q hQ
  obtain ⟨e1, e2, e3⟩ := lossF_mk (x := x) hy.1 k
  obtain ⟨b1, b2⟩ := eA_b hx hy (show k ≤ 31 by omega)
  obtain ⟨b3, b4⟩ := eA_b hx hy (show k + 1 ≤ 31 by omega)
  obtain ⟨p1, p2, p3, p4⟩ := p156
  have hyA : ((y * eA x y k : Nat) : Int) ≤ ((100000 ^ 31 : Nat) : Int) * 999 := by
    rw [Int.natCast_mul, Int.mul_comm]
    exact Int.mul_le_mul b1 (by omega) (by omega) (by omega)
  have hyA0 : 0 < y * eA x y k := Nat.mul_pos hy.1 (eA_pos hy.1 k)
  have B2 : Bd (mkRat (x : Int) y * lossF (mkRat (x : Int) y) k) 40 := by rw [e2]; exact Bd_mk hyA0 (by omega) (by omega)
  have B3 : Bd (((k + 1 : Nat) : Rat) + mkRat (x : Int) y * lossF (mkRat (x : Int) y) k) 40 := by rw [e3]; exact Bd_mk hyA0 (by omega) (by omega)
  have n3 : ((k + 1 : Nat) : Rat) + mkRat (x : Int) y * lossF (mkRat (x : Int) y) k ≠ 0 := by
    rw [e3]
    refine (Rat.mkRat_ne_zero (by omega)).mpr ?_
    have := eA_pos (x := x) hy.1 (k + 1)
    omega
  refine e_M_addsServer (b_M_addsServer_0 ⟨⟨by omega, by omega⟩, ⟨by omega, by omega⟩, ?_⟩)
  refine (s_sets (d := d) (i := 64) (by decide) (by omega) hy.1 (by omega)).cal fun v1 M1 hM1 => ?_
  obtain ⟨f1, g1⟩ := hM1
  refine (s_multiplies (d := d) (a := 64) (b := 81) (c := 65) (ka := 1) (kb := 39) (by decide) (by decide) (by decide) g1 (h.kept f1 (by decide) (by decide)) (Bd_mk hy.1 (by omega) (by omega)) (Bd_loss hx hy (by omega)) (by decide)).cal fun v2 M2 hM2 => ?_
  obtain ⟨f2, g2⟩ := hM2
  refine ⟨⟨by omega, by omega⟩, ?_⟩
  refine (s_sets (d := d) (i := 66) (y := 1) (by decide) (by omega) (by decide) (by decide)).cal fun v3 M3 hM3 => ?_
  obtain ⟨f3, g3⟩ := hM3
  rw [← nat_mk] at g3
  refine (s_adds (d := d) (a := 66) (b := 65) (c := 66) (ka := 1) (kb := 40) (by decide) (by decide) (by decide) g3 (g2.kept f3 (by decide) (by decide)) (by rw [nat_mk]; exact Bd_mk (by decide) (by omega) (by omega)) B2 (by decide)).cal fun v4 M4 hM4 => ?_
  obtain ⟨f4, g4⟩ := hM4
  refine (s_divides (d := d) (a := 65) (b := 66) (c := 81) (ka := 40) (kb := 40) (by decide) (by decide) (by decide) ((g2.kept f3 (by decide) (by decide)).kept f4 (by decide) (by decide)) g4 n3 B2 B3 (by decide)).cal fun v5 M5 hM5 => ?_
  obtain ⟨f5, g5⟩ := hM5
  exact hQ _ _ ⟨((((f1.mono (by simp)).tr (f2.mono (by simp))).tr (f3.mono (by simp))).tr (f4.mono (by simp))).tr (f5.mono (by simp)), g5⟩
theorem s_loses {d : Nat} {M : Mem} {x y n : Nat} (hx : x ≤ 999) (hy : 0 < y ∧ y ≤ 999) (hn : n ≤ 30) : Post (d + 7) cM_loses [oM, .inl (n : Int), .inl (x : Int), .inl (y : Int)] M (fun _ M' => FR [64, 65, 66, 81] M M' ∧ FQ M' 81 (lossF (mkRat (x : Int) y) n)) := by
  intro Q hQ
  refine e_M_loses (b_M_loses_0 ?_)
  refine (s_sets (d := d + 1) (i := 81) (x := 1) (y := 1) (by decide) (by decide) (by decide) (by decide)).cal fun v1 M1 hM1 => ?_
  obtain ⟨f1, g1⟩ := hM1
  have loop : ∀ (m k : Nat), k + m = n → ∀ M2, FR [64, 65, 66, 81] M M2 → FQ M2 81 (lossF (mkRat (x : Int) y) k) → L_M_loses_7 (d + 6) Q M2 (n : Int) (x : Int) (y : Int) (((k + 1 : Nat)) : Int) := by
    intro m
    induction m with
    | zero =>
      intro k hk M2 f g
      have hk : k = n := by omega
      subst hk
      exact b_M_loses_7 ⟨⟨by omega, by omega⟩, ⟨by omega, by omega⟩, fun _ => hQ _ _ ⟨f, g⟩, fun z => absurd (by omega) z⟩
    | succ m ih =>
      intro k hk M2 f g
      refine b_M_loses_7 ⟨⟨by omega, by omega⟩, ⟨by omega, by omega⟩, fun z => absurd z (by omega), fun _ => ?_⟩
      refine (s_addsServer (d := d) hx hy (by omega) g).cal fun v3 M3 hM3 => ?_
      obtain ⟨f3, g3⟩ := hM3
      have := ih (k + 1) (by omega) M3 (f.tr f3) g3
      rw [show ((k + 1 + 1 : Nat) : Int) = ((k + 1 : Nat) : Int) + 1 by omega] at this
      exact this
  exact loop n 0 (by omega) M1 (f1.mono (by simp)) (by rw [show mkRat (1 : Int) 1 = 1 from Rat.mkRat_self 1] at g1; exact g1)
theorem s_MlostShare {d : Nat} {M : Mem} {n a b : Int} (hn : R32 n) (ha : R32 a) (hb : R32 b) : Post (d + 8) cM_lostShare [oM, .inl n, .inl a, .inl b] M (fun v M' => (¬ ((0 ≤ n ∧ n ≤ 30) ∧ fracOk a b) ∧ M' = upd2 M 175 0 1) ∨ (((0 ≤ n ∧ n ≤ 30) ∧ fracOk a b) ∧ FM [] [0] [64, 65, 66, 80, 81] M M' ∧ M' 175 0 = 0 ∧ FQ M' 80 (lossF (mkRat a b.toNat) n.toNat) ∧ v = (lossF (mkRat a b.toNat) n.toNat).num.sign)) := by
  intro Q hQ
  have no : ¬ ((0 ≤ n ∧ n ≤ 30) ∧ fracOk a b) → cald (d + 7) cM_refuse [oM, .inl 1] M (fun r M2 => Rt r (fun v2 => Q (.inl v2) M2) (fun x => Q (.inr x) M2)) := fun h => (s_refuse (d := d + 6)).cal fun v2 M2 hM2 => by
    obtain ⟨rfl, rfl⟩ := hM2
    exact hQ _ _ (Or.inl ⟨h, rfl⟩)
  refine e_M_lostShare (b_M_lostShare_0 ?_)
  refine (s_in (d := d + 6) hn ⟨by decide, by decide⟩ ⟨by decide, by decide⟩).cal fun v1 M1 hM1 => ?_
  obtain ⟨rfl, ⟨rfl, g1, g2⟩ | ⟨rfl, g1⟩⟩ := hM1
  · refine ⟨⟨by decide, by decide⟩, fun z => absurd z (by decide), fun _ => ?_⟩
    refine (s_isFraction (d := d + 5) ha hb).cal fun v1 M1 hM1 => ?_
    obtain ⟨rfl, ⟨rfl, g3⟩ | ⟨rfl, g3⟩⟩ := hM1
    · refine ⟨⟨by decide, by decide⟩, fun _ => ?_, fun z => absurd (by decide) z⟩
      obtain ⟨q1, q2⟩ := g3
      obtain ⟨N, rfl⟩ : ∃ N : Nat, n = N := ⟨n.toNat, by omega⟩
      obtain ⟨A, rfl⟩ : ∃ A : Nat, a = A := ⟨a.toNat, by omega⟩
      obtain ⟨B, rfl⟩ : ∃ B : Nat, b = B := ⟨b.toNat, by omega⟩
      rw [Int.toNat_natCast, Int.toNat_natCast] at hQ
      refine (s_loses (d := d) (x := A) (y := B) (n := N) (by omega) (by omega) (by omega)).cal fun v3 M3 hM3 => ?_
      obtain ⟨f3, k3⟩ := hM3
      refine (s_comesTo (d := d + 4) (a := 81) (by decide) (by decide) k3).cal fun v5 M5 hM5 => ?_
      obtain ⟨f5, k5, k6, rfl⟩ := hM5
      exact hQ _ _ (Or.inr ⟨⟨by omega, q1, q2⟩, (f3.fm.mono (by simp) (by simp) (by simp)).tr (f5.mono (by simp) (by simp) (by simp)), k6, k5, rfl⟩)
    · exact ⟨⟨by decide, by decide⟩, fun z => absurd rfl z, fun _ => no fun h => g3 h.2⟩
  · exact ⟨⟨by decide, by decide⟩, fun _ => no fun h => g1 h.1, fun z => absurd rfl z⟩
