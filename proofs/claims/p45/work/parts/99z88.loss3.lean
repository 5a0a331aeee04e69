/-! Loss: the reference, and the ops of both. -/
def fracOk (a b : Int) : Prop := (0 ≤ a ∧ a ≤ 999) ∧ 1 ≤ b ∧ b ≤ 999
theorem s_needFraction {d : Nat} {M : Mem} {a b : Int} (ha : R32 a) (hb : R32 b) : PostE (d + 1) cQ_needFraction [.inl a, .inl b] M (fun r M' => (¬ fracOk a b ∧ r = .inr 2 ∧ M' = M) ∨ (fracOk a b ∧ r = .inl 0 ∧ M' = M)) := by
  intro Q hQ
  have no : ¬ fracOk a b → Q (.inr 2) M := fun h => hQ _ _ (Or.inl ⟨h, rfl, rfl⟩)
  unfold fracOk at no hQ
  exact e_Q_needFraction (b_Q_needFraction_0 ⟨ha, fun _ => no (by omega), fun _ => ⟨fun _ => no (by omega), fun _ => ⟨hb, fun _ => no (by omega), fun _ => ⟨fun _ => hQ _ _ (Or.inr ⟨by omega, rfl, rfl⟩), fun _ => no (by omega)⟩⟩⟩⟩)
theorem mkRat_le {v w a b : Nat} (hw : 0 < w) (hb : 0 < b) : mkRat (v : Int) w ≤ mkRat (a : Int) b ↔ (v : Int) * b ≤ (w : Int) * a := by
  have hw' : (w : Int) ≠ 0 := by omega
  have hb' : (b : Int) ≠ 0 := by omega
  rw [Rat.le_iff_sub_nonneg, ← Rat.divInt_ofNat, ← Rat.divInt_ofNat, Rat.divInt_sub_divInt _ _ hb' hw', Rat.divInt_nonneg_iff_of_pos_right (Int.mul_pos (by omega) (by omega))]
  rw [Int.mul_comm (w : Int)]
  omega
theorem sign_sub_le {p q : Rat} : (p - q).num.sign ≤ 0 ↔ p ≤ q := by
  rw [Rat.le_iff_sub_nonneg, ← Rat.neg_sub, ← Rat.num_nonneg, Rat.neg_num]
  generalize (q - p).num = x
  rw [Int.sign_neg]
  rcases Int.lt_trichotomy x 0 with h | h | h
  · rw [Int.sign_eq_neg_one_of_neg h]; omega
  · rw [h]; decide
  · rw [Int.sign_eq_one_of_pos h]; omega
theorem sign_r (x : Int) : -1 ≤ x.sign ∧ x.sign ≤ 1 := by
  rcases sign_cases x with e | e | e <;> rw [e] <;> decide
theorem Bd_mk {v w k : Nat} (hw : 0 < w) (hv : (v : Int) < 10000 ^ k) (hw2 : (w : Int) < 10000 ^ k) : Bd (mkRat (v : Int) w) k := by
  obtain ⟨e1, e2, _, _⟩ := mkRat_parts (x := v) hw
  have h1 : v / Nat.gcd v w ≤ v := Nat.div_le_self _ _
  have h2 : w / Nat.gcd v w ≤ w := Nat.div_le_self _ _
  refine ⟨?_, ?_⟩
  · rw [e1, Int.natAbs_natCast]; omega
  · rw [e2]; omega
theorem nat_mk (n : Nat) : ((n : Nat) : Rat) = mkRat (n : Int) 1 := by
  rw [Rat.mkRat_eq_div]
  have n3 : ((n : Int) : Rat) = (n : Rat) := rfl
  have n4 : ((1 : Nat) : Rat) = 1 := rfl
  rw [n3, n4]
  generalize (n : Rat) = z
  grind
theorem mk_red {x y : Nat} (hy : 0 < y) : mkRat (x : Int) y = mkRat ((x / Nat.gcd x y : Nat) : Int) (y / Nat.gcd x y) := by
  have hg : 0 < Nat.gcd x y := Nat.gcd_pos_of_pos_right _ hy
  have h1 := Nat.div_mul_cancel (Nat.gcd_dvd_left x y)
  have h2 := Nat.div_mul_cancel (Nat.gcd_dvd_right x y)
  have e := Rat.mkRat_mul_right (n := ((x / Nat.gcd x y : Nat) : Int)) (d := y / Nat.gcd x y) (a := Nat.gcd x y) (by omega)
  rw [← Int.natCast_mul, h1, h2] at e
  exact e
theorem p156 : ((100000 ^ 31 : Nat) : Int) < 10000 ^ 39 ∧ ((100000 ^ 31 : Nat) : Int) * 999 < 10000 ^ 40 ∧ (10000 : Int) ^ 39 < 10000 ^ 40 ∧ (999 : Int) < 10000 ^ 1 := by decide +kernel
theorem Bd_loss {x y k : Nat} (hx : x ≤ 999) (hy : 0 < y ∧ y ≤ 999) (hk : k ≤ 31) : Bd (lossF (mkRat (x : Int) y) k) 39 := by
  obtain ⟨e1, _, _⟩ := lossF_mk (x := x) hy.1 k
  obtain ⟨b1, b2⟩ := eA_b hx hy hk
  obtain ⟨p1, p2, p3, p4⟩ := p156
  rw [e1]
  exact Bd_mk (eA_pos hy.1 k) (by omega) (by omega)