/-! errors: the shares of a closed net. -/
def mvS (s to fr : Nat) : Nat := s - 4 ^ to + 4 ^ fr
theorem mv_all' : ∀ n, n < 5 → ∀ s, s < 4 ^ n → ∀ to, to < n → ∀ fr, fr < n → (!(jS s n == 2) || (jA s to == 0) || (Nat.ble (4 ^ to) s && Nat.blt (mvS s to fr) (4 ^ n) && (jS (mvS s to fr) n == 2))) = true := by decide +kernel
theorem mv_all : ∀ n, n < 5 → ∀ s, s < 4 ^ n → jS s n = 2 → ∀ to, to < n → 0 < jA s to → ∀ fr, fr < n → 4 ^ to ≤ s ∧ mvS s to fr < 4 ^ n ∧ jS (mvS s to fr) n = 2 := by
  intro n hn s hs h2 to h3 h4 fr h5
  have h := mv_all' n hn s hs to h3 fr h5
  rw [Bool.or_eq_true, Bool.or_eq_true, Bool.and_eq_true, Bool.and_eq_true, beq_iff_eq, beq_iff_eq, Bool.not_eq_true', beq_eq_false_iff_ne] at h
  rcases h with (h | h) | ⟨⟨a, b⟩, c⟩
  · exact absurd h2 h
  · omega
  · exact ⟨Nat.le_of_ble_eq_true a, Nat.le_of_ble_eq_true b, c⟩
/-- what leaves, by 100 -/
def lvN (S : Nat → Int) (s : Nat) : Nat → Nat
  | 0 => 0
  | k + 1 => lvN S s k + (if jA s k = 0 then 0 else 100 * (S k).toNat)
def csN (S : Nat → Int) (A : Nat → Nat → Int) (l : Nat → Nat) (n s to : Nat) : Nat → Nat
  | 0 => 0
  | k + 1 => csN S A l n s to k + ((S k).toNat * (A k to).toNat) * shN l (mvS s to k) n
/-- what comes, by 100 -/
def cmN (S : Nat → Int) (A : Nat → Nat → Int) (l : Nat → Nat) (n s : Nat) : Nat → Nat
  | 0 => 0
  | k + 1 => cmN S A l n s k + (if jA s k = 0 then 0 else csN S A l n s k n)
def styN (n : Nat) (S : Nat → Int) (A : Nat → Nat → Int) (l : Nat → Nat) (s : Nat) : Prop := shN l s n * lvN S s n = cmN S A l n s n
def styA (n : Nat) (S : Nat → Int) (A : Nat → Nat → Int) : Prop := ∀ s, s < 4 ^ n → jS s n = 2 → styN n S A (lwN n S A) s
theorem csN_scale {S : Nat → Int} {A : Nat → Nat → Int} {l w : Nat → Nat} {g n s to : Nat} (h : ∀ k, k < n → w k = g * l k) (hm : ∀ fr, fr < n → jS (mvS s to fr) n = 2) : ∀ k, k ≤ n → csN S A w n s to k = g ^ 2 * csN S A l n s to k := by
  intro k
  induction k with
  | zero => intro _; show 0 = g ^ 2 * 0; rw [Nat.mul_zero]
  | succ k ih =>
    intro hk
    show csN S A w n s to k + ((S k).toNat * (A k to).toNat) * shN w (mvS s to k) n = g ^ 2 * (csN S A l n s to k + ((S k).toNat * (A k to).toNat) * shN l (mvS s to k) n)
    rw [ih (by omega), shN_scale h n (Nat.le_refl n), hm k (by omega), Nat.mul_add]
    congr 1
    rw [Nat.mul_left_comm]
theorem cmN_scale {S : Nat → Int} {A : Nat → Nat → Int} {l w : Nat → Nat} {g n s : Nat} (h : ∀ k, k < n → w k = g * l k) (hm : ∀ to, to < n → 0 < jA s to → ∀ fr, fr < n → jS (mvS s to fr) n = 2) : ∀ k, k ≤ n → cmN S A w n s k = g ^ 2 * cmN S A l n s k := by
  intro k
  induction k with
  | zero => intro _; show 0 = g ^ 2 * 0; rw [Nat.mul_zero]
  | succ k ih =>
    intro hk
    show cmN S A w n s k + (if jA s k = 0 then 0 else csN S A w n s k n) = g ^ 2 * (cmN S A l n s k + (if jA s k = 0 then 0 else csN S A l n s k n))
    rw [ih (by omega), Nat.mul_add]
    congr 1
    by_cases e : jA s k = 0
    · rw [if_pos e, if_pos e, Nat.mul_zero]
    · rw [if_neg e, if_neg e, csN_scale h (hm k (by omega) (by omega)) n (Nat.le_refl n)]
theorem styN_scale {S : Nat → Int} {A : Nat → Nat → Int} {l w : Nat → Nat} {g n s : Nat} (g0 : 0 < g) (hn : n < 5) (hs : s < 4 ^ n) (h2 : jS s n = 2) (h : ∀ k, k < n → w k = g * l k) : styN n S A w s ↔ styN n S A l s := by
  unfold styN
  rw [shN_scale h n (Nat.le_refl n), h2, cmN_scale h (fun to h1 h3 fr h4 => (mv_all n hn s hs h2 to h1 h3 fr h4).2.2) n (Nat.le_refl n), Nat.mul_assoc]
  have : 0 < g ^ 2 := Nat.pow_pos g0
  exact ⟨fun e => Nat.eq_of_mul_eq_mul_left this e, fun e => by rw [e]⟩
theorem lvN_r {S : Nat → Int} {s n : Nat} (h : ∀ k, k < n → 1 ≤ S k ∧ S k ≤ 1000) : ∀ k, k ≤ n → lvN S s k ≤ 100000 * k := by
  intro k
  induction k with
  | zero => intro _; exact Nat.le_refl _
  | succ k ih =>
    intro hk
    have := ih (by omega)
    have hs := h k (by omega)
    show lvN S s k + (if jA s k = 0 then 0 else 100 * (S k).toNat) ≤ _
    split <;> omega
theorem csN_r {S : Nat → Int} {A : Nat → Nat → Int} {l : Nat → Nat} {n s to : Nat} (hS : ∀ k, k < n → 1 ≤ S k ∧ S k ≤ 1000) (hA : ∀ k, k < n → 0 ≤ A k to ∧ A k to ≤ 100) (hl : ∀ k, k < n → 0 < l k ∧ l k ≤ BL) (hm : ∀ fr, fr < n → jS (mvS s to fr) n = 2) : ∀ k, k ≤ n → csN S A l n s to k ≤ k * (100000 * BL ^ 3) := by
  intro k
  induction k with
  | zero => intro _; exact Nat.zero_le _
  | succ k ih =>
    intro hk
    have h1 := ih (by omega)
    have h2 := (shN_r (s := mvS s to k) (by decide) hl n (Nat.le_refl n)).2
    rw [hm k (by omega)] at h2
    have h3 := hS k (by omega)
    have h4 := hA k (by omega)
    have h5 : (S k).toNat * (A k to).toNat ≤ 1000 * 100 := Nat.mul_le_mul (by omega) (by omega)
    show csN S A l n s to k + ((S k).toNat * (A k to).toNat) * shN l (mvS s to k) n ≤ (k + 1) * (100000 * BL ^ 3)
    rw [Nat.add_mul, Nat.one_mul]
    exact Nat.add_le_add h1 (Nat.mul_le_mul h5 (Nat.le_trans h2 (BL_pow (by decide))))
theorem cmN_r {S : Nat → Int} {A : Nat → Nat → Int} {l : Nat → Nat} {n s : Nat} (h4 : n ≤ 4) (hS : ∀ k, k < n → 1 ≤ S k ∧ S k ≤ 1000) (hA : ∀ j k, j < n → k < n → 0 ≤ A j k ∧ A j k ≤ 100) (hl : ∀ k, k < n → 0 < l k ∧ l k ≤ BL) (hm : ∀ to, to < n → 0 < jA s to → ∀ fr, fr < n → jS (mvS s to fr) n = 2) : ∀ k, k ≤ n → cmN S A l n s k ≤ k * (400000 * BL ^ 3) := by
  intro k
  induction k with
  | zero => intro _; exact Nat.zero_le _
  | succ k ih =>
    intro hk
    have h1 := ih (by omega)
    show cmN S A l n s k + (if jA s k = 0 then 0 else csN S A l n s k n) ≤ (k + 1) * (400000 * BL ^ 3)
    rw [Nat.add_mul, Nat.one_mul]
    refine Nat.add_le_add h1 ?_
    by_cases e : jA s k = 0
    · rw [if_pos e]; exact Nat.zero_le _
    · rw [if_neg e]
      refine Nat.le_trans (csN_r hS (fun j hj => hA j k hj (by omega)) hl (hm k (by omega) (by omega)) n (Nat.le_refl n)) ?_
      rw [show 400000 * BL ^ 3 = 4 * (100000 * BL ^ 3) by rw [← Nat.mul_assoc]]
      exact Nat.mul_le_mul h4 (Nat.le_refl _)
theorem p4k : ∀ k, k < 5 → (1 : Int) * 2 ^ ((2 * ((k : Nat) : Int)).toNat) = ((4 ^ k : Nat) : Int) := by decide +kernel
theorem mv_int {s to fr : Nat} (h : 4 ^ to ≤ s) (h1 : to < 5) (h2 : fr < 5) : (s : Int) - (1 : Int) * 2 ^ ((2 * ((to : Nat) : Int)).toNat) + (1 : Int) * 2 ^ ((2 * ((fr : Nat) : Int)).toNat) = ((mvS s to fr : Nat) : Int) := by
  rw [p4k to h1, p4k fr h2]
  unfold mvS
  omega
abbrev dssC : List Nat := [48, 49, 50, 51, 52, 53]
theorem fit_any {x : Nat} (h : x ≤ 4 * (400000 * BL ^ 3)) : (x : Int) < BB ^ 20 ∧ x ≤ BL ^ 3 * 10000000 := by
  have h1 : x ≤ BL ^ 3 * 10000000 := Nat.le_trans h (by decide +kernel)
  have h2 : BL ^ 3 * 10000000 < 1000000000 ^ 20 := by decide +kernel
  have h3 := Int.ofNat_lt.mpr (Nat.lt_of_le_of_lt h1 h2)
  have e : ((1000000000 ^ 20 : Nat) : Int) = BB ^ 20 := by decide +kernel
  rw [e] at h3
  exact ⟨h3, h1⟩
theorem s_doesShareStay {d : Nat} {M : Mem} {n s : Nat} {C S : Nat → Int} {A : Nat → Nat → Int} {l : Nat → Nat} (hN : NC M n C S A) (hO : nOk n C S A) (hz : AZ M) (hs : s < 4 ^ n) (h2 : jS s n = 2) (hl : ∀ i, i < n → M 141 i = l i ∧ 0 < l i ∧ l i ≤ BL) : Post (d + 4) cN_doesShareStay [oN, .inl (s : Int)] M (fun v M' => Fr dssC M M' ∧ AZ M' ∧ ((v = 1 ∧ styN n S A l s) ∨ (v = 0 ∧ ¬ styN n S A l s))) := by
  intro Q hQ
  have h4 := hO.1
  have p4 := (p4n n (by omega)).2
  have hl1 : ∀ k, k < n → 0 < l k ∧ l k ≤ BL := fun k hk => (hl k hk).2
  have hSr : ∀ k, k < n → 1 ≤ S k ∧ S k ≤ 1000 := fun k hk => hO.2.2.2.2 k (by omega)
  have hAr : ∀ j k, j < n → k < n → 0 ≤ A j k ∧ A j k ≤ 100 := fun j k hj hk => hO.2.1.2.2.1 j k (by omega) (by omega)
  have hmv := mv_all n (by omega) s hs h2
  have hm2 : ∀ to, to < n → 0 < jA s to → ∀ fr, fr < n → jS (mvS s to fr) n = 2 := fun to a b fr c => (hmv to a b fr c).2.2
  refine e_N_doesShareStay (b_N_doesShareStay_0 ?_)
  refine (s_setLong (d := d + 1) (r0 := 52) (j := 0) bI52 (hz 52 bI52) (by decide) (by decide)).cal fun v1 M1 hM1 => ?_
  obtain ⟨f1, g1⟩ := hM1
  have z1 : AZ M1 := hz.big bI52 f1 g1
  have nk : ∀ {M2 : Mem}, Fr dssC M M2 → NC M2 n C S A := fun h => hN.kept h (by decide) (by decide) (by decide) fun i hi => by simp; omega
  have lk : ∀ {M2 : Mem}, Fr dssC M M2 → ∀ i, i < n → M2 141 i = l i ∧ 0 < l i ∧ l i ≤ BL := fun h i hi => by rw [h 141 (by decide)]; exact hl i hi
  have outer : ∀ (f k : Nat), k + f = n → ∀ M2 o5, Fr dssC M M2 → AZ M2 → Big M2 52 ((cmN S A l n s k : Nat) : Int) → L_N_doesShareStay_8 (d + 3) Q M2 (s : Int) ((lvN S s k : Nat) : Int) (k : Int) o5 := by
    intro f
    induction f with
    | zero =>
      intro k hk M2 o5 f2 z2 g2
      have hk : k = n := by omega
      subst hk
      have N2 := nk f2
      refine b_N_doesShareStay_8 ?_
      rw [N2.1]
      refine ⟨⟨by omega, by omega⟩, ⟨by omega, by omega⟩, fun _ => ?_, fun z => absurd (Int.le_refl _) z⟩
      refine (s_findShare (d := d) (l := l) N2.1 h4.2 (z2 48 bI48) (show s < 256 by omega) (by omega) (lk f2)).cal fun v3 M3 hM3 => ?_
      obtain ⟨f3, g3⟩ := hM3
      have z3 := z2.b48 f3 g3
      refine (s_setLong (d := d + 1) (r0 := 50) (j := 0) bI50 (z3 50 bI50) (by decide) (by decide)).cal fun v5 M5 hM5 => ?_
      obtain ⟨f5, g5⟩ := hM5
      have hlv := lvN_r (s := s) hSr k (Nat.le_refl k)
      have sh := (shN_r (s := s) (by decide) hl1 k (Nat.le_refl k)).2
      rw [h2] at sh
      have ee : (0 : Int) + ((shN l s k : Nat) : Int) * ((lvN S s k : Nat) : Int) = ((shN l s k * lvN S s k : Nat) : Int) := by rw [Int.zero_add, Int.natCast_mul]
      have hfit : shN l s k * lvN S s k ≤ 4 * (400000 * BL ^ 3) := by
        rw [Nat.mul_comm, ← Nat.mul_assoc]
        exact Nat.mul_le_mul (by omega) (Nat.le_trans sh (BL_pow (by decide)))
      refine (s_addScaled (d := d + 1) (r0 := 50) (r1 := 48) (j := ((lvN S s k : Nat) : Int)) bI50 bI48 (by decide) g5 (f5.big g3 (by decide) (by decide)) (by omega) (by rw [ee]; exact (fit_any hfit).1)).cal fun v6 M6 hM6 => ?_
      obtain ⟨f6, g6⟩ := hM6
      rw [ee] at g6
      have z6 := (z3.big bI50 f5 g5).big bI50 f6 g6
      have g52 := f6.big (f5.big (f3.big g2 (by decide) (by decide)) (by decide) (by decide)) (by decide) (by decide)
      refine (s_compareWith (d := d + 2) bI50 bI52 g6 g52).cal fun v7 M7 hM7 => ?_
      obtain ⟨rfl, rfl⟩ := hM7
      have F : Fr dssC M M7 := ((f2.tr (f3.mono (by simp))).tr (f5.mono (by simp))).tr (f6.mono (by simp))
      refine ⟨?_, fun z => hQ _ _ ⟨F, z6, Or.inr ⟨rfl, fun h => z ?_⟩⟩, fun z => hQ _ _ ⟨F, z6, Or.inl ⟨rfl, ?_⟩⟩⟩
      · split
        · exact ⟨by decide, by decide⟩
        · split <;> exact ⟨by decide, by decide⟩
      · have h : shN l s k * lvN S s k = cmN S A l k s k := h
        rw [h, if_neg (Int.lt_irrefl _), if_pos rfl]
      · show shN l s k * lvN S s k = cmN S A l k s k
        refine Classical.byContradiction fun hne => z ?_
        by_cases q : ((shN l s k * lvN S s k : Nat) : Int) < ((cmN S A l k s k : Nat) : Int)
        · rw [if_pos q]; decide
        · rw [if_neg q, if_neg (fun e => hne (Int.ofNat_inj.mp e))]; decide
    | succ f ih =>
      intro k hk M2 o5 f2 z2 g2
      have N2 := nk f2
      have hkn : k < n := by omega
      refine b_N_doesShareStay_8 ?_
      rw [N2.1, show (k : Int) + 1 = ((k + 1 : Nat) : Int) by omega]
      refine ⟨⟨by omega, by omega⟩, ⟨by omega, by omega⟩, fun z => absurd z (by omega), fun _ => ?_⟩
      refine (s_jobsAt (d := d + 2) (show s < 256 by omega) (show k < 4 by omega)).cal fun v3 M3 hM3 => ?_
      obtain ⟨rfl, rfl⟩ := hM3
      have ja := jA_lt (s := s) (k := k)
      have st := fun M4 => ih (k + 1) (by omega) M4
      rw [show cmN S A l n s (k + 1) = cmN S A l n s k + (if jA s k = 0 then 0 else csN S A l n s k n) from rfl, show lvN S s (k + 1) = lvN S s k + (if jA s k = 0 then 0 else 100 * (S k).toNat) from rfl] at st
      refine ⟨⟨by omega, by omega⟩, fun z => ?_, fun z => ?_⟩
      · have e : jA s k = 0 := by omega
        rw [if_pos e, if_pos e, Nat.add_zero, Nat.add_zero] at st
        exact st M3 _ f2 z2 g2
      · have e : ¬ jA s k = 0 := by omega
        have hSk := hSr k hkn
        rw [if_neg e, if_neg e] at st
        have hcm := cmN_r h4.2 hSr hAr hl1 hm2 (k + 1) (by omega)
        rw [show cmN S A l n s (k + 1) = cmN S A l n s k + (if jA s k = 0 then 0 else csN S A l n s k n) from rfl, if_neg e] at hcm
        rw [Int.toNat_natCast, N2.2.2.1 k (by omega)]
        refine ⟨⟨by omega, by omega⟩, ⟨by omega, by omega⟩, ?_⟩
        rw [show ((lvN S s k : Nat) : Int) + 100 * S k = ((lvN S s k + 100 * (S k).toNat : Nat) : Int) by omega]
        have inner : ∀ (g m : Nat), m + g = n → ∀ M4, Fr dssC M M4 → AZ M4 → Big M4 52 ((cmN S A l n s k + csN S A l n s k m : Nat) : Int) → L_N_doesShareStay_28 (d + 3) Q M4 (s : Int) ((lvN S s k + 100 * (S k).toNat : Nat) : Int) (k : Int) (m : Int) := by
          intro g
          induction g with
          | zero =>
            intro m hm M4 f4 z4 g4
            have hm : m = n := by omega
            subst hm
            refine b_N_doesShareStay_28 ?_
            rw [(nk f4).1, show (k : Int) + 1 = ((k + 1 : Nat) : Int) by omega]
            exact ⟨⟨by omega, by omega⟩, ⟨by omega, by omega⟩, fun _ => st M4 _ f4 z4 g4, fun z => absurd (Int.le_refl _) z⟩
          | succ g ihg =>
            intro m hm M4 f4 z4 g4
            have hmn : m < n := by omega
            have N4 := nk f4
            obtain ⟨mv1, mv2, mv3⟩ := hmv k hkn (by omega) m hmn
            refine b_N_doesShareStay_28 ?_
            rw [N4.1, mv_int mv1 (by omega) (by omega), show (m : Int) + 1 = ((m + 1 : Nat) : Int) by omega]
            refine ⟨⟨by omega, by omega⟩, ⟨by omega, by omega⟩, fun z => absurd z (by omega), fun _ => ⟨⟨by omega, by omega⟩, ⟨by omega, by omega⟩, ?_⟩⟩
            refine (s_findShare (d := d) (l := l) N4.1 h4.2 (z4 48 bI48) (show mvS s k m < 256 by omega) (by omega) (lk f4)).cal fun v5 M5 hM5 => ?_
            obtain ⟨f5, g5⟩ := hM5
            have F5 : Fr dssC M M5 := f4.tr (f5.mono (by simp))
            have N5 := nk F5
            obtain ⟨r1, r2, r3⟩ := wra138 m (by omega)
            have hSm := hSr m hmn
            have hAm := hAr m k hmn hkn
            rw [Int.toNat_natCast, Int.toNat_natCast, r1, r2, r3, N5.2.2.1 m (by omega), N5.2.2.2 m k (by omega) (by omega)]
            refine ⟨⟨by omega, by omega⟩, ⟨by omega, by omega⟩, rfl, ⟨by omega, by omega⟩, ⟨by omega, by omega⟩, ?_⟩
            have eSA : S m * A m k = (((S m).toNat * (A m k).toNat : Nat) : Int) := by rw [Int.natCast_mul, show (((S m).toNat : Nat) : Int) = S m by omega, show (((A m k).toNat : Nat) : Int) = A m k by omega]
            have bSA : (S m).toNat * (A m k).toNat ≤ 1000 * 100 := Nat.mul_le_mul (by omega) (by omega)
            have hcs : csN S A l n s k (m + 1) = csN S A l n s k m + ((S m).toNat * (A m k).toNat) * shN l (mvS s k m) n := rfl
            have ee : ((cmN S A l n s k + csN S A l n s k m : Nat) : Int) + ((shN l (mvS s k m) n : Nat) : Int) * (((S m).toNat * (A m k).toNat : Nat) : Int) = ((cmN S A l n s k + csN S A l n s k (m + 1) : Nat) : Int) := by
              rw [hcs, ← Int.natCast_mul, ← Int.natCast_add, Nat.mul_comm (shN l (mvS s k m) n), Nat.add_assoc]
            have hmono : ∀ a b, a ≤ b → csN S A l n s k a ≤ csN S A l n s k b := fun a b hab => by
              induction b with
              | zero => rw [show a = 0 by omega]; exact Nat.le_refl _
              | succ b ihb =>
                by_cases q : a = b + 1
                · rw [q]; exact Nat.le_refl _
                · exact Nat.le_trans (ihb (by omega)) (Nat.le_add_right _ _)
            have hfit : cmN S A l n s k + csN S A l n s k (m + 1) ≤ 4 * (400000 * BL ^ 3) := Nat.le_trans (Nat.add_le_add_left (hmono (m + 1) n (by omega)) _) (Nat.le_trans hcm (Nat.mul_le_mul (by omega) (Nat.le_refl _)))
            rw [eSA]
            refine (s_addScaled (d := d + 1) (r0 := 52) (r1 := 48) (j := (((S m).toNat * (A m k).toNat : Nat) : Int)) bI52 bI48 (by decide) (f5.big g4 (by decide) (by decide)) g5 (by omega) (by rw [ee]; exact (fit_any hfit).1)).cal fun v6 M6 hM6 => ?_
            obtain ⟨f6, g6⟩ := hM6
            rw [ee] at g6
            exact ihg (m + 1) (by omega) M6 (F5.tr (f6.mono (by simp))) ((z4.b48 f5 g5).big bI52 f6 g6) g6
        exact inner n 0 (by omega) M3 f2 z2 g2
  exact outer n 0 (by omega) M1 _ (f1.mono (by simp)) z1 g1
abbrev nssC : List Nat := [48, 49, 50, 51, 52, 53, 141, 83, 84, 85, 86, 87, 88, 89]
theorem s_NdoSharesStay {d : Nat} {M : Mem} {n : Nat} {C S : Nat → Int} {A : Nat → Nat → Int} (hN : NC M n C S A) (hO : nOk n C S A) (hcl : closedOk n C A) (hz : AZ M) : Post (d + 5) cN_doSharesStay [oN] M (fun v M' => Fr nssC M M' ∧ AZ M' ∧ ((v = 1 ∧ styA n S A) ∨ (v = 0 ∧ ¬ styA n S A))) := by
  intro Q hQ
  have h4 := hO.1
  obtain ⟨e4, p4⟩ := p4n n (by omega)
  have p0 : 0 < 4 ^ n := Nat.pow_pos (by decide)
  refine e_N_doSharesStay (b_N_doSharesStay_0 ?_)
  refine (s_findLoads (d := d) hN hO hcl).cal fun v1 M1 hM1 => ?_
  obtain ⟨f1, g, g0, gd, hl⟩ := hM1
  have hlc := fun i hi => lc_r (i := i) hO hcl g0 gd hi
  have hlw : ∀ k, k < n → lwN n S A k = g * (fun i => lwN n S A i / g) k := fun k hk => (hlc k hk).2.2
  have z1 : AZ M1 := hz.fr f1 fun r hr hm => by
    obtain ⟨r1, r2⟩ := hr
    simp at hm
    omega
  have N1 := hN.ld f1
  have loop : ∀ (f s : Nat), s + f = 4 ^ n → ∀ M2, Fr dssC M1 M2 → AZ M2 → (∀ t, t < s → jS t n = 2 → styN n S A (lwN n S A) t) → L_N_doSharesStay_4 (d + 4) Q M2 (s : Int) := by
    intro f
    induction f with
    | zero =>
      intro s hs M2 f2 z2 hall
      have hs : s = 4 ^ n := by omega
      subst hs
      refine b_N_doSharesStay_4 ?_
      rw [f2 142 (by decide), N1.1, e4]
      exact ⟨⟨by omega, by omega⟩, ⟨by omega, by omega⟩, ⟨by omega, by omega⟩, fun _ => hQ _ _ ⟨(f1.mono (by simp)).tr (f2.mono (by simp)), z2, Or.inl ⟨rfl, hall⟩⟩, fun z => absurd (Int.le_refl _) z⟩
    | succ f ih =>
      intro s hs M2 f2 z2 hall
      have N2 : NC M2 n C S A := N1.kept f2 (by decide) (by decide) (by decide) fun i hi => by simp; omega
      have nx : ∀ M3, Fr dssC M1 M3 → AZ M3 → (jS s n = 2 → styN n S A (lwN n S A) s) → L_N_doSharesStay_4 (d + 4) Q M3 ((s + 1 : Nat) : Int) := fun M3 f3 z3 h => ih (s + 1) (by omega) M3 f3 z3 fun t ht h2 => by
        by_cases e : t = s
        · rw [e] at h2 ⊢; exact h h2
        · exact hall t (by omega) h2
      have js : jS s n ≤ 12 := by
        have a0 := jA_lt (s := s) (k := 0)
        have a1 := jA_lt (s := s) (k := 1)
        have a2 := jA_lt (s := s) (k := 2)
        have a3 := jA_lt (s := s) (k := 3)
        have : jS s 4 ≤ 12 := by
          show 0 + jA s 0 + jA s 1 + jA s 2 + jA s 3 ≤ 12
          omega
        exact Nat.le_trans (jS_le h4.2) this
      refine b_N_doSharesStay_4 ?_
      rw [N2.1, e4, show (s : Int) + 1 = ((s + 1 : Nat) : Int) by omega]
      refine ⟨⟨by omega, by omega⟩, ⟨by omega, by omega⟩, ⟨by omega, by omega⟩, fun z => absurd z (by omega), fun _ => ?_⟩
      refine (s_jobsIn (d := d + 2) N2.1 h4.2 (show s < 256 by omega)).cal fun v3 M3 hM3 => ?_
      obtain ⟨rfl, rfl⟩ := hM3
      refine ⟨⟨by omega, by omega⟩, fun z => nx M3 f2 z2 fun h => absurd (by rw [h]; rfl) z, fun z => ?_⟩
      have h2 : jS s n = 2 := by omega
      refine (s_doesShareStay (d := d) (l := fun i => lwN n S A i / g) N2 hO z2 (show s < 4 ^ n by omega) h2 (fun i hi => ⟨by rw [f2 141 (by decide)]; exact hl i hi, (hlc i hi).1, (hlc i hi).2.1⟩)).cal fun v4 M4 hM4 => ?_
      obtain ⟨f4, z4, hv⟩ := hM4
      have hsc := styN_scale (S := S) (A := A) (s := s) g0 (by omega) (by omega) h2 hlw
      rcases hv with ⟨rfl, h⟩ | ⟨rfl, h⟩
      · exact ⟨⟨by decide, by decide⟩, fun _ => nx M4 (f2.tr f4) z4 fun _ => hsc.mpr h, fun z => absurd (by decide) z⟩
      · exact ⟨⟨by decide, by decide⟩, fun z => absurd rfl z, fun _ => hQ _ _ ⟨(f1.mono (by simp)).tr ((f2.tr f4).mono (by simp)), z4, Or.inr ⟨rfl, fun hA => h (hsc.mp (hA s (by omega) h2))⟩⟩⟩
  exact loop (4 ^ n) 0 (by omega) M1 Fr.rfl' z1 fun t h => absurd h (Nat.not_lt_zero t)
