/-! Closed nets: the mean number. -/
def smN (l : Nat → Nat) (n J : Nat) : Nat → Nat
  | 0 => 0
  | s + 1 => smN l n J s + (if jS s n = J then shN l s n else 0)
def mnN (l : Nat → Nat) (n J x : Nat) : Nat → Nat
  | 0 => 0
  | s + 1 => mnN l n J x s + (if jS s n = J then jA s x * shN l s n else 0)
theorem smN_scale {l w : Nat → Nat} {g n J : Nat} (h : ∀ k, k < n → w k = g * l k) : ∀ s, smN w n J s = g ^ J * smN l n J s := by
  intro s
  induction s with
  | zero => show 0 = g ^ J * 0; rw [Nat.mul_zero]
  | succ s ih =>
    show smN w n J s + (if jS s n = J then shN w s n else 0) = g ^ J * (smN l n J s + (if jS s n = J then shN l s n else 0))
    rw [ih, Nat.mul_add]
    by_cases e : jS s n = J
    · rw [if_pos e, if_pos e, shN_scale h n (Nat.le_refl n), e]
    · rw [if_neg e, if_neg e, Nat.mul_zero]
theorem mnN_scale {l w : Nat → Nat} {g n J x : Nat} (h : ∀ k, k < n → w k = g * l k) : ∀ s, mnN w n J x s = g ^ J * mnN l n J x s := by
  intro s
  induction s with
  | zero => show 0 = g ^ J * 0; rw [Nat.mul_zero]
  | succ s ih =>
    show mnN w n J x s + (if jS s n = J then jA s x * shN w s n else 0) = g ^ J * (mnN l n J x s + (if jS s n = J then jA s x * shN l s n else 0))
    rw [ih, Nat.mul_add]
    by_cases e : jS s n = J
    · rw [if_pos e, if_pos e, shN_scale h n (Nat.le_refl n), e, Nat.mul_left_comm]
    · rw [if_neg e, if_neg e, Nat.mul_zero]
abbrev BL : Nat := 27000000000000000
theorem BL_pow {J : Nat} (h : J ≤ 3) : BL ^ J ≤ BL ^ 3 := Nat.pow_le_pow_right (by decide) h
theorem smN_r {l : Nat → Nat} {n J : Nat} (hJ : J ≤ 3) (h : ∀ k, k < n → 0 < l k ∧ l k ≤ BL) : ∀ s, smN l n J s ≤ s * BL ^ 3 := by
  intro s
  induction s with
  | zero => exact Nat.zero_le _
  | succ s ih =>
    show smN l n J s + (if jS s n = J then shN l s n else 0) ≤ (s + 1) * BL ^ 3
    rw [Nat.add_mul, Nat.one_mul]
    refine Nat.add_le_add ih ?_
    by_cases e : jS s n = J
    · rw [if_pos e]
      have := (shN_r (s := s) (by decide) h n (Nat.le_refl n)).2
      rw [e] at this
      exact Nat.le_trans this (BL_pow hJ)
    · rw [if_neg e]; exact Nat.zero_le _
theorem mnN_r {l : Nat → Nat} {n J x : Nat} (hJ : J ≤ 3) (h : ∀ k, k < n → 0 < l k ∧ l k ≤ BL) : ∀ s, mnN l n J x s ≤ s * (3 * BL ^ 3) := by
  intro s
  induction s with
  | zero => exact Nat.zero_le _
  | succ s ih =>
    show mnN l n J x s + (if jS s n = J then jA s x * shN l s n else 0) ≤ (s + 1) * (3 * BL ^ 3)
    rw [Nat.add_mul, Nat.one_mul]
    refine Nat.add_le_add ih ?_
    by_cases e : jS s n = J
    · rw [if_pos e]
      have h1 := (shN_r (s := s) (by decide) h n (Nat.le_refl n)).2
      rw [e] at h1
      have := jA_lt (s := s) (k := x)
      exact Nat.mul_le_mul (by omega) (Nat.le_trans h1 (BL_pow hJ))
    · rw [if_neg e]; exact Nat.zero_le _
theorem sm_fit {l : Nat → Nat} {n J s : Nat} (hJ : J ≤ 3) (h : ∀ k, k < n → 0 < l k ∧ l k ≤ BL) (hs : s ≤ 256) : smN l n J s ≤ BL ^ 3 * 1000000 := by
  refine Nat.le_trans (smN_r hJ h s) ?_
  rw [Nat.mul_comm]
  exact Nat.mul_le_mul (Nat.le_refl _) (by omega)
theorem mn_fit {l : Nat → Nat} {n J x s : Nat} (hJ : J ≤ 3) (h : ∀ k, k < n → 0 < l k ∧ l k ≤ BL) (hs : s ≤ 256) : mnN l n J x s ≤ BL ^ 3 * 1000000 := by
  refine Nat.le_trans (mnN_r hJ h s) ?_
  rw [show s * (3 * BL ^ 3) = BL ^ 3 * (s * 3) by rw [Nat.mul_comm 3, ← Nat.mul_assoc, Nat.mul_comm s, Nat.mul_assoc]]
  exact Nat.mul_le_mul (Nat.le_refl _) (by omega)
theorem smN_pos {l : Nat → Nat} {n J t : Nat} (h0 : jS t n = J) (hp : 0 < shN l t n) : ∀ s, t < s → 0 < smN l n J s := by
  intro s
  induction s with
  | zero => intro h; exact absurd h (Nat.not_lt_zero _)
  | succ s ih =>
    intro h
    show 0 < smN l n J s + (if jS s n = J then shN l s n else 0)
    by_cases e : t = s
    · subst e
      rw [if_pos h0]; omega
    · have := ih (by omega)
      omega
def clQ (n : Nat) (S : Nat → Int) (A : Nat → Nat → Int) (J x : Nat) : Rat := mkRat ((mnN (lwN n S A) n J x (4 ^ n) : Nat) : Int) (smN (lwN n S A) n J (4 ^ n))
theorem p4n : ∀ n, n < 5 → (1 : Int) * 2 ^ ((2 * ((n : Nat) : Int)).toNat) = ((4 ^ n : Nat) : Int) ∧ 4 ^ n ≤ 256 := by decide +kernel
theorem lc_r {n i g : Nat} {C S : Nat → Int} {A : Nat → Nat → Int} (hO : nOk n C S A) (hcl : closedOk n C A) (g0 : 0 < g) (hd : ∀ i, i < n → g ∣ lwN n S A i) (hi : i < n) : 0 < lwN n S A i / g ∧ lwN n S A i / g ≤ BL ∧ lwN n S A i = g * (lwN n S A i / g) := by
  obtain ⟨h1, h2⟩ := lwN_r hO hcl hi
  have h3 := Nat.mul_div_cancel' (hd i hi)
  refine ⟨?_, Nat.le_trans (Nat.div_le_self _ _) h2, h3.symm⟩
  refine Nat.pos_of_ne_zero fun e => ?_
  rw [e, Nat.mul_zero] at h3
  omega
abbrev mirC : List Nat := [0, 1, 2, 3, 4, 5, 6, 7, 8, 9, 48, 49, 50, 51, 52, 53, 141, 83, 84, 85, 86, 87, 88, 89]
theorem s_meanInRound {d : Nat} {M : Mem} {n J x : Nat} {C S : Nat → Int} {A : Nat → Nat → Int} (hN : NC M n C S A) (hO : nOk n C S A) (hcl : closedOk n C A) (hz : AZ M) (hJ : J ≤ 3) (hx : x < n) : Post (d + 7) cN_meanInRound [oN, .inl (J : Int), .inl (x : Int), oB 90] M (fun v M' => Fr mirC M M' ∧ AZ M' ∧ CF M' (clQ n S A J x) ∧ v = (clQ n S A J x).num.sign) := by
  intro Q hQ
  have h4 := hO.1
  obtain ⟨e4, p4⟩ := p4n n (by omega)
  obtain ⟨jJ, J4⟩ := jS_one n (by omega) (by omega) J (by omega)
  refine e_N_meanInRound (b_N_meanInRound_0 ?_)
  refine (s_findLoads (d := d + 2) hN hO hcl).cal fun v1 M1 hM1 => ?_
  obtain ⟨f1, g, g0, gd, hl⟩ := hM1
  have hlc := fun i hi => lc_r (i := i) hO hcl g0 gd hi
  have hl1 : ∀ k, k < n → 0 < (fun i => lwN n S A i / g) k ∧ (fun i => lwN n S A i / g) k ≤ BL := fun k hk => ⟨(hlc k hk).1, (hlc k hk).2.1⟩
  have hlw : ∀ k, k < n → lwN n S A k = g * (fun i => lwN n S A i / g) k := fun k hk => (hlc k hk).2.2
  have z1 : AZ M1 := hz.fr f1 fun r hr hm => by
    obtain ⟨r1, r2⟩ := hr
    simp at hm
    omega
  refine (s_setLong (d := d + 4) (r0 := 50) (j := 0) bI50 (z1 50 bI50) (by decide) (by decide)).cal fun v2 M2 hM2 => ?_
  obtain ⟨f2, g2⟩ := hM2
  have z2 : AZ M2 := z1.big bI50 f2 g2
  refine (s_setLong (d := d + 4) (r0 := 52) (j := 0) bI52 (z2 52 bI52) (by decide) (by decide)).cal fun v3 M3 hM3 => ?_
  obtain ⟨f3, g3⟩ := hM3
  have z3 : AZ M3 := z2.big bI52 f3 g3
  have F3 : Fr mirC M M3 := ((f1.mono (by simp)).tr (f2.mono (by simp))).tr (f3.mono (by simp))
  have loop : ∀ (f s : Nat), s + f = 4 ^ n → ∀ M4, Fr [48, 49, 50, 51, 52, 53] M1 M4 → AZ M4 → Big M4 50 ((mnN (fun i => lwN n S A i / g) n J x s : Nat) : Int) → Big M4 52 ((smN (fun i => lwN n S A i / g) n J s : Nat) : Int) → L_N_meanInRound_12 (d + 6) Q M4 (J : Int) (x : Int) (s : Int) := by
    intro f
    induction f with
    | zero =>
      intro s hs M4 f4 z4 b4 c4
      have hs : s = 4 ^ n := by omega
      subst hs
      refine b_N_meanInRound_12 ?_
      rw [f4 142 (by decide), f1 142 (by decide), hN.1, e4]
      refine ⟨⟨by omega, by omega⟩, ⟨by omega, by omega⟩, ⟨by omega, by omega⟩, fun _ => ?_, fun z => absurd (Int.le_refl _) z⟩
      have sp := smN_pos (l := fun i => lwN n S A i / g) jJ (shN_r (s := J) (by decide) hl1 n (Nat.le_refl n)).1 (4 ^ n) J4
      refine (s_setBigsQ (d := d) bI50 bI52 (by decide) (by decide) b4 c4 (fun r hr => z4 r (bIr (by omega) (by omega))) (pBB (mn_fit hJ hl1 p4)).1 (pBB (sm_fit hJ hl1 p4)).1 sp).cal fun v5 M5 hM5 => ?_
      obtain ⟨f5, g5, k5, e5⟩ := hM5
      have ev : mkRat ((mnN (fun i => lwN n S A i / g) n J x (4 ^ n) : Nat) : Int) (smN (fun i => lwN n S A i / g) n J (4 ^ n)) = clQ n S A J x := by
        show _ = mkRat ((mnN (lwN n S A) n J x (4 ^ n) : Nat) : Int) (smN (lwN n S A) n J (4 ^ n))
        rw [mnN_scale hlw, smN_scale hlw, Int.natCast_mul]
        exact (Rat.mkRat_mul_left (by have := Nat.pow_pos (n := J) g0; omega)).symm
      rw [ev] at g5 e5
      have F4 : Fr mirC M M4 := (f1.mono (by simp)).tr (f4.mono (by simp))
      refine hQ _ _ ⟨F4.tr (f5.mono (by simp)), z4.set f5 fun r hr h2 hm => ?_, g5, e5⟩
      rcases (show r = 0 ∨ r = 2 ∨ r = 4 ∨ r = 6 ∨ r = 8 by simp at hm; omega) with h | h | h | h | h
      · rw [h]; exact g5.rz0
      · rw [h]; exact g5.rz2
      · exact k5 r (by omega)
      · exact k5 r (by omega)
      · exact k5 r (by omega)
    | succ f ih =>
      intro s hs M4 f4 z4 b4 c4
      have s256 : s < 256 := by omega
      have n4 : M4 142 0 = n := by rw [f4 142 (by decide), f1 142 (by decide), hN.1]
      have st := fun M5 => ih (s + 1) (by omega) M5
      rw [show mnN (fun i => lwN n S A i / g) n J x (s + 1) = mnN (fun i => lwN n S A i / g) n J x s + (if jS s n = J then jA s x * shN (fun i => lwN n S A i / g) s n else 0) from rfl, show smN (fun i => lwN n S A i / g) n J (s + 1) = smN (fun i => lwN n S A i / g) n J s + (if jS s n = J then shN (fun i => lwN n S A i / g) s n else 0) from rfl] at st
      have fm := mn_fit (x := x) (s := s + 1) hJ hl1 (by omega)
      have fs := sm_fit (s := s + 1) hJ hl1 (by omega)
      rw [show mnN (fun i => lwN n S A i / g) n J x (s + 1) = mnN (fun i => lwN n S A i / g) n J x s + (if jS s n = J then jA s x * shN (fun i => lwN n S A i / g) s n else 0) from rfl] at fm
      rw [show smN (fun i => lwN n S A i / g) n J (s + 1) = smN (fun i => lwN n S A i / g) n J s + (if jS s n = J then shN (fun i => lwN n S A i / g) s n else 0) from rfl] at fs
      refine b_N_meanInRound_12 ?_
      rw [n4, e4, show (s : Int) + 1 = ((s + 1 : Nat) : Int) by omega]
      refine ⟨⟨by omega, by omega⟩, ⟨by omega, by omega⟩, ⟨by omega, by omega⟩, fun z => absurd z (by omega), fun _ => ?_⟩
      refine (s_jobsIn (d := d + 4) n4 h4.2 s256).cal fun v5 M5 hM5 => ?_
      obtain ⟨rfl, rfl⟩ := hM5
      have js : jS s n ≤ jS s 4 := jS_le h4.2
      have j12 : jS s 4 ≤ 12 := by
        have a0 := jA_lt (s := s) (k := 0)
        have a1 := jA_lt (s := s) (k := 1)
        have a2 := jA_lt (s := s) (k := 2)
        have a3 := jA_lt (s := s) (k := 3)
        show 0 + jA s 0 + jA s 1 + jA s 2 + jA s 3 ≤ 12
        omega
      refine ⟨⟨by omega, by omega⟩, ⟨by omega, by omega⟩, fun z => ?_, fun z => ?_⟩
      · have z : jS s n ≠ J := fun e => z (by rw [e])
        rw [if_neg z, if_neg z, Nat.add_zero, Nat.add_zero] at st
        exact st M5 f4 z4 b4 c4
      · have z : jS s n = J := by omega
        rw [if_pos z] at fm fs
        rw [if_pos z, if_pos z] at st
        refine (s_findShare (d := d + 3) (l := fun i => lwN n S A i / g) n4 h4.2 (z4 48 bI48) s256 (by omega) (fun i hi => ⟨by rw [f4 141 (by decide)]; exact hl i hi, hl1 i hi⟩)).cal fun v6 M6 hM6 => ?_
        obtain ⟨f6, g6⟩ := hM6
        refine (s_jobsAt (d := d + 5) s256 (show x < 4 by omega)).cal fun v7 M7 hM7 => ?_
        obtain ⟨rfl, rfl⟩ := hM7
        have ja := jA_lt (s := s) (k := x)
        have ee : ((mnN (fun i => lwN n S A i / g) n J x s : Nat) : Int) + ((shN (fun i => lwN n S A i / g) s n : Nat) : Int) * ((jA s x : Nat) : Int) = ((mnN (fun i => lwN n S A i / g) n J x s + jA s x * shN (fun i => lwN n S A i / g) s n : Nat) : Int) := by
          rw [Int.natCast_add, Int.natCast_mul, Int.mul_comm]
        have ef : ((smN (fun i => lwN n S A i / g) n J s : Nat) : Int) + ((shN (fun i => lwN n S A i / g) s n : Nat) : Int) * 1 = ((smN (fun i => lwN n S A i / g) n J s + shN (fun i => lwN n S A i / g) s n : Nat) : Int) := by
          rw [Int.natCast_add, Int.mul_one]
        refine ⟨⟨by omega, by omega⟩, ?_⟩
        refine (s_addScaled (d := d + 4) (r0 := 50) (r1 := 48) (j := ((jA s x : Nat) : Int)) bI50 bI48 (by decide) (f6.big b4 (by decide) (by decide)) g6 (by omega) (by rw [ee]; exact (pBB fm).2)).cal fun v8 M8 hM8 => ?_
        obtain ⟨f8, g8⟩ := hM8
        rw [ee] at g8
        refine (s_addScaled (d := d + 4) (r0 := 52) (r1 := 48) (j := 1) bI52 bI48 (by decide) (f8.big (f6.big c4 (by decide) (by decide)) (by decide) (by decide)) (f8.big g6 (by decide) (by decide)) (by decide) (by rw [ef]; exact (pBB fs).2)).cal fun v9 M9 hM9 => ?_
        obtain ⟨f9, g9⟩ := hM9
        rw [ef] at g9
        exact st M9 (((f4.tr (f6.mono (by simp))).tr (f8.mono (by simp))).tr (f9.mono (by simp))) (((z4.b48 f6 g6).big bI50 f8 g8).big bI52 f9 g9) (f9.big g8 (by decide) (by decide)) g9
  exact loop (4 ^ n) 0 (by omega) M3 ((f2.mono (by simp)).tr (f3.mono (by simp))) z3 (f3.big g2 (by decide) (by decide)) g3
abbrev clC : List Nat := 139 :: mirC
theorem NC.mir {M M' : Mem} {n : Nat} {C S : Nat → Int} {A : Nat → Nat → Int} (h : NC M n C S A) (hf : Fr mirC M M') : NC M' n C S A := h.kept hf (by decide) (by decide) (by decide) fun i hi => by simp; omega
theorem s_Qclosed {d : Nat} {M : Mem} {n : Nat} {C S : Nat → Int} {A : Nat → Nat → Int} {j i : Int} (hN : NC M n C S A) (hO : nOk n C S A) (hz : AZ M) (hj : R32 j) (hi : R32 i) : PostE (d + 8) cQ_closed [oQ, .inl j, .inl i] M (fun r M' => (¬ inSt n i i ∧ r = .inr 4 ∧ M' = M) ∨ (inSt n i i ∧ ¬ (1 ≤ j ∧ j ≤ 3) ∧ r = .inr 2 ∧ M' = M) ∨ (inSt n i i ∧ (1 ≤ j ∧ j ≤ 3) ∧ ¬ closedOk n C A ∧ r = .inr 3 ∧ Fr [139] M M') ∨ (inSt n i i ∧ (1 ≤ j ∧ j ≤ 3) ∧ closedOk n C A ∧ Fr clC M M' ∧ NC M' n C S A ∧ AZ M' ∧ CF M' (clQ n S A j.toNat i.toNat) ∧ r = .inl (clQ n S A j.toNat i.toNat).num.sign)) := by
  intro Q hQ
  have h4 := hO.1
  refine e_Q_closed (b_Q_closed_0 ?_)
  refine (s_needNodes (d := d + 6) hN.1 h4.2 hi hi).cal fun r1 M1 hM1 => ?_
  rcases hM1 with ⟨h1, rfl, rfl⟩ | ⟨h1, rfl, rfl⟩
  · exact hQ _ _ (Or.inl ⟨h1, rfl, rfl⟩)
  refine ⟨hj, fun _ => hQ _ _ (Or.inr (Or.inl ⟨h1, by omega, rfl, rfl⟩)), fun m1 => ⟨fun m2 => ?_, fun _ => hQ _ _ (Or.inr (Or.inl ⟨h1, by omega, rfl, rfl⟩))⟩⟩
  have hj' : 1 ≤ j ∧ j ≤ 3 := by omega
  have hq := h1
  unfold inSt at hq
  obtain ⟨I, rfl⟩ : ∃ I : Nat, i = I := ⟨i.toNat, by omega⟩
  obtain ⟨J, rfl⟩ : ∃ J : Nat, j = J := ⟨j.toNat, by omega⟩
  rw [Int.toNat_natCast, Int.toNat_natCast] at hQ
  refine (s_isWithoutOutside (d := d + 4) hN hO).cal fun v2 M2 hM2 => ?_
  obtain ⟨f2, ⟨rfl, g⟩ | ⟨rfl, g⟩⟩ := hM2
  · refine ⟨⟨by decide, by decide⟩, fun _ => ?_, fun z => absurd (by decide) z⟩
    refine (s_meanInRound (d := d) (hN.lead f2) hO g (hz.l139 f2) (show J ≤ 3 by omega) (show I < n by omega)).cal fun v3 M3 hM3 => ?_
    obtain ⟨f3, z3, g3, e3⟩ := hM3
    exact hQ _ _ (Or.inr (Or.inr (Or.inr ⟨h1, hj', g, (f2.mono (by simp)).tr (f3.mono fun a h => List.mem_cons_of_mem _ h), (hN.lead f2).mir f3, z3, g3, by rw [e3]⟩)))
  · exact ⟨⟨by decide, by decide⟩, fun z => absurd rfl z, fun _ => hQ _ _ (Or.inr (Or.inr (Or.inl ⟨h1, hj', g, rfl, f2⟩)))⟩
/-! The reference. -/