/-! Closed nets: states and shares. -/
def jA (s k : Nat) : Nat := s / 4 ^ k % 4
def jS (s : Nat) : Nat → Nat
  | 0 => 0
  | k + 1 => jS s k + jA s k
theorem jA_all : ∀ s, s < 256 → ∀ k, k < 4 → zand (((s : Nat) : Int) / 2 ^ ((2 * ((k : Nat) : Int)).toNat)) 3 = ((jA s k : Nat) : Int) := by decide +kernel
theorem jS_all : ∀ n, n < 5 → ∀ s, s < 4 ^ n → jS s 4 = jS s n := by decide +kernel
theorem jS_one : ∀ n, n < 5 → 0 < n → ∀ J, J < 4 → jS J n = J ∧ J < 4 ^ n := by decide +kernel
theorem jA_lt {s k : Nat} : jA s k < 4 := Nat.mod_lt _ (by decide)
theorem jS_le {s : Nat} : ∀ {k m : Nat}, k ≤ m → jS s k ≤ jS s m := by
  intro k m h
  induction m with
  | zero => rw [show k = 0 by omega]; exact Nat.le_refl _
  | succ m ih =>
    by_cases e : k = m + 1
    · rw [e]; exact Nat.le_refl _
    · have := ih (by omega)
      show jS s k ≤ jS s m + jA s m
      omega
theorem s_jobsAt {d : Nat} {M : Mem} {s k : Nat} (hs : s < 256) (hk : k < 4) : Post (d + 1) cN_jobsAt [.inl (s : Int), .inl (k : Int)] M (fun v M' => M' = M ∧ v = ((jA s k : Nat) : Int)) := by
  intro Q hQ
  refine e_N_jobsAt (b_N_jobsAt_0 ?_)
  rw [jA_all s hs k hk]
  exact ⟨⟨by omega, by omega⟩, ⟨by omega, by omega⟩, hQ _ _ ⟨rfl, rfl⟩⟩
theorem s_jobsIn {d : Nat} {M : Mem} {n s : Nat} (hn : M 142 0 = n) (h4 : n ≤ 4) (hs : s < 256) : Post (d + 2) cN_jobsIn [oN, .inl (s : Int)] M (fun v M' => M' = M ∧ v = ((jS s n : Nat) : Int)) := by
  intro Q hQ
  refine e_N_jobsIn (b_N_jobsIn_0 ?_)
  have loop : ∀ (f k : Nat), k + f = n → L_N_jobsIn_4 (d + 1) Q M (s : Int) ((jS s k : Nat) : Int) (k : Int) := by
    intro f
    induction f with
    | zero =>
      intro k hk
      have hk : k = n := by omega
      subst hk
      refine b_N_jobsIn_4 ?_
      rw [hn]
      exact ⟨⟨by omega, by omega⟩, ⟨by omega, by omega⟩, fun _ => hQ _ _ ⟨rfl, rfl⟩, fun z => absurd (Int.le_refl _) z⟩
    | succ f ih =>
      intro k hk
      refine b_N_jobsIn_4 ?_
      rw [hn]
      refine ⟨⟨by omega, by omega⟩, ⟨by omega, by omega⟩, fun z => absurd z (by omega), fun _ => ?_⟩
      refine (s_jobsAt (d := d) hs (show k < 4 by omega)).cal fun v1 M1 hM1 => ?_
      obtain ⟨rfl, rfl⟩ := hM1
      rw [show (k : Int) + 1 = ((k + 1 : Nat) : Int) by omega, show ((jS s k : Nat) : Int) + ((jA s k : Nat) : Int) = ((jS s (k + 1) : Nat) : Int) from rfl]
      exact ih (k + 1) (by omega)
  exact loop n 0 (by omega)
def shN (l : Nat → Nat) (s : Nat) : Nat → Nat
  | 0 => 1
  | k + 1 => shN l s k * l k ^ jA s k
theorem shN_r {l : Nat → Nat} {s B n : Nat} (hB : 1 ≤ B) (h : ∀ k, k < n → 0 < l k ∧ l k ≤ B) : ∀ k, k ≤ n → 0 < shN l s k ∧ shN l s k ≤ B ^ jS s k := by
  intro k
  induction k with
  | zero => intro _; exact ⟨Nat.one_pos, Nat.le_refl _⟩
  | succ k ih =>
    intro hk
    obtain ⟨h1, h2⟩ := ih (by omega)
    have hl := h k (by omega)
    refine ⟨Nat.mul_pos h1 (Nat.pow_pos hl.1), ?_⟩
    show shN l s k * l k ^ jA s k ≤ B ^ (jS s k + jA s k)
    rw [Nat.pow_add]
    exact Nat.mul_le_mul h2 (Nat.pow_le_pow_left hl.2 _)
theorem shN_scale {l w : Nat → Nat} {s g n : Nat} (h : ∀ k, k < n → w k = g * l k) : ∀ k, k ≤ n → shN w s k = g ^ jS s k * shN l s k := by
  intro k
  induction k with
  | zero => intro _; show 1 = g ^ 0 * 1; rw [Nat.pow_zero]
  | succ k ih =>
    intro hk
    show shN w s k * w k ^ jA s k = g ^ (jS s k + jA s k) * (shN l s k * l k ^ jA s k)
    rw [ih (by omega), h k (by omega), Nat.mul_pow, Nat.pow_add]
    generalize g ^ jS s k = a
    generalize g ^ jA s k = b
    generalize shN l s k = c
    generalize l k ^ jA s k = e
    rw [Nat.mul_assoc, Nat.mul_assoc, Nat.mul_left_comm c]
theorem pB : (27000000000000000 : Nat) ^ 3 * 1000000 < 1000000000 ^ 18 := by decide +kernel
theorem pBB {x : Nat} (h : x ≤ 27000000000000000 ^ 3 * 1000000) : (x : Int) < BB ^ 18 ∧ (x : Int) < BB ^ 20 := by
  have h1 := Int.ofNat_lt.mpr (Nat.lt_of_le_of_lt h pB)
  have e : ((1000000000 ^ 18 : Nat) : Int) = BB ^ 18 := by decide +kernel
  rw [e] at h1
  have := p14.2
  omega
theorem AZ.b48 {M M' : Mem} {v : Int} (h : AZ M) (f : Fr [48, 49] M M') (g : Big M' 48 v) : AZ M' := h.big bI48 f g
theorem s_findShare {d : Nat} {M : Mem} {n s : Nat} {l : Nat → Nat} (hn : M 142 0 = n) (h4 : n ≤ 4) (hz : RZ M 48) (hs : s < 256) (h3 : jS s n ≤ 3) (hl : ∀ i, i < n → M 141 i = l i ∧ 0 < l i ∧ l i ≤ 27000000000000000) : Post (d + 3) cN_findShare [oN, .inl (s : Int)] M (fun _ M' => Fr [48, 49] M M' ∧ Big M' 48 ((shN l s n : Nat) : Int)) := by
  intro Q hQ
  refine e_N_findShare (b_N_findShare_0 ?_)
  refine (s_setLong (d := d) (r0 := 48) (j := 1) bI48 hz (by decide) (by decide)).cal fun v1 M1 hM1 => ?_
  obtain ⟨f1, g1⟩ := hM1
  have outer : ∀ (f k : Nat), k + f = n → ∀ M2 o3, Fr [48, 49] M M2 → Big M2 48 ((shN l s k : Nat) : Int) → L_N_findShare_6 (d + 2) Q M2 (s : Int) (k : Int) o3 := by
    intro f
    induction f with
    | zero =>
      intro k hk M2 o3 f2 g2
      have hk : k = n := by omega
      subst hk
      refine b_N_findShare_6 ?_
      rw [f2 142 (by decide), hn]
      exact ⟨⟨by omega, by omega⟩, ⟨by omega, by omega⟩, fun _ => hQ _ _ ⟨f2, g2⟩, fun z => absurd (Int.le_refl _) z⟩
    | succ f ih =>
      intro k hk M2 o3 f2 g2
      obtain ⟨lk, lp, lb⟩ := hl k (by omega)
      obtain ⟨sp, sb⟩ := shN_r (s := s) (B := 27000000000000000) (n := n) (by decide) (fun k hk => (hl k hk).2) k (by omega)
      have js : jS s k + jA s k ≤ jS s n := jS_le (s := s) (show k + 1 ≤ n by omega)
      refine b_N_findShare_6 ?_
      rw [f2 142 (by decide), hn]
      refine ⟨⟨by omega, by omega⟩, ⟨by omega, by omega⟩, fun z => absurd z (by omega), fun _ => ?_⟩
      have inner : ∀ (g m : Nat), m + g = jA s k → ∀ M3, Fr [48, 49] M M3 → Big M3 48 ((shN l s k * l k ^ m : Nat) : Int) → L_N_findShare_12 (d + 2) Q M3 (s : Int) (k : Int) (m : Int) := by
        intro g
        induction g with
        | zero =>
          intro m hm M3 f3 g3
          have hm : m = jA s k := by omega
          have := jA_lt (s := s) (k := k)
          refine b_N_findShare_12 ?_
          refine (s_jobsAt (d := d + 1) hs (show k < 4 by omega)).cal fun v4 M4 hM4 => ?_
          obtain ⟨rfl, rfl⟩ := hM4
          rw [show (k : Int) + 1 = ((k + 1 : Nat) : Int) by omega]
          refine ⟨⟨by omega, by omega⟩, ⟨by omega, by omega⟩, fun _ => ih (k + 1) (by omega) M4 _ f3 ?_, fun z => absurd (by omega) z⟩
          rw [hm] at g3
          exact g3
        | succ g ihg =>
          intro m hm M3 f3 g3
          have := jA_lt (s := s) (k := k)
          refine b_N_findShare_12 ?_
          refine (s_jobsAt (d := d + 1) hs (show k < 4 by omega)).cal fun v4 M4 hM4 => ?_
          obtain ⟨rfl, rfl⟩ := hM4
          rw [Int.toNat_natCast, f3 141 (by decide), lk]
          refine ⟨⟨by omega, by omega⟩, ⟨by omega, by omega⟩, fun z => absurd z (by omega), fun _ => ⟨⟨by omega, by omega⟩, ?_⟩⟩
          have e : ((shN l s k * l k ^ m : Nat) : Int) * ((l k : Nat) : Int) = ((shN l s k * l k ^ (m + 1) : Nat) : Int) := by rw [← Int.natCast_mul, Nat.pow_succ, Nat.mul_assoc]
          have hb : shN l s k * l k ^ (m + 1) ≤ 27000000000000000 ^ 3 := by
            have h1 : shN l s k * l k ^ (m + 1) ≤ 27000000000000000 ^ jS s k * 27000000000000000 ^ (m + 1) := Nat.mul_le_mul sb (Nat.pow_le_pow_left lb _)
            rw [← Nat.pow_add] at h1
            exact Nat.le_trans h1 (Nat.pow_le_pow_right (by decide) (by omega))
          refine (s_multiply (d := d) (r0 := 48) (j := ((l k : Nat) : Int)) bI48 g3 (by omega) (by omega) (by rw [e]; exact (pBB (Nat.le_trans hb (by decide))).2)).cal fun v5 M5 hM5 => ?_
          obtain ⟨f5, g5⟩ := hM5
          rw [e] at g5
          rw [show (m : Int) + 1 = ((m + 1 : Nat) : Int) by omega]
          exact ihg (m + 1) (by omega) M5 (f3.tr f5) g5
      exact inner (jA s k) 0 (by omega) M2 f2 (by rw [Nat.pow_zero, Nat.mul_one]; exact g2)
  exact outer n 0 (by omega) M1 _ f1 g1
theorem mk_mulD {a b : Nat} {D E : Nat} : mkRat (a : Int) D * mkRat (b : Int) E = mkRat ((a * b : Nat) : Int) (D * E) := by
  rw [Rat.mkRat_mul_mkRat, ← Int.natCast_mul]
theorem mk_addD {a b D : Nat} (hD : 0 < D) : mkRat (a : Int) D + mkRat (b : Int) D = mkRat ((a + b : Nat) : Int) D := by
  have h : (((D : Nat) : Int) : Rat) ≠ 0 := int_ne (by omega)
  rw [mkRat_ratio, mkRat_ratio, mkRat_ratio, Int.natCast_add, Rat.intCast_add]
  generalize (((a : Nat) : Int) : Rat) = u at *
  generalize (((b : Nat) : Int) : Rat) = v at *
  generalize (((D : Nat) : Int) : Rat) = w at *
  grind
theorem mk_divD {a b D : Nat} (hD : 0 < D) (hb : 0 < b) : mkRat (a : Int) D / mkRat (b : Int) D = mkRat (a : Int) b := by
  have h : (((D : Nat) : Int) : Rat) ≠ 0 := int_ne (by omega)
  have h2 : (((b : Nat) : Int) : Rat) ≠ 0 := int_ne (by omega)
  rw [mkRat_ratio, mkRat_ratio, mkRat_ratio]
  generalize (((a : Nat) : Int) : Rat) = u at *
  generalize (((b : Nat) : Int) : Rat) = v at *
  generalize (((D : Nat) : Int) : Rat) = w at *
  grind
theorem pK : (27000000000000000 : Nat) ^ 3 * 1000000 < 10000 ^ 16 ∧ (27000000000000000000 : Nat) ^ 3 * 10000 < 10000 ^ 16 ∧ (27000000000000000 : Nat) < 10000 ^ 5 ∧ (27000000000000000000 : Nat) < 10000 ^ 5 := by decide +kernel
theorem Bd_mkN {v w k : Nat} (hw : 0 < w) (hv : v < 10000 ^ k) (hw2 : w < 10000 ^ k) : Bd (mkRat (v : Int) w) k := by
  have e : ((10000 ^ k : Nat) : Int) = (10000 : Int) ^ k := Int.natCast_pow 10000 k
  refine Bd_mk hw ?_ ?_
  · rw [← e]; exact Int.ofNat_lt.mpr hv
  · rw [← e]; exact Int.ofNat_lt.mpr hw2