/-! errors: the shares of a closed net, the reference. -/
def lv2 (S : Nat → Int) (s : Nat) : Nat → Nat
  | 0 => 0
  | k + 1 => lv2 S s k + (if jA s k = 0 then 0 else (S k).toNat)
theorem lv2_100 {S : Nat → Int} {s : Nat} : ∀ k, lvN S s k = lv2 S s k * 100 := by
  intro k
  induction k with
  | zero => rfl
  | succ k ih =>
    show lvN S s k + (if jA s k = 0 then 0 else 100 * (S k).toNat) = (lv2 S s k + (if jA s k = 0 then 0 else (S k).toNat)) * 100
    rw [ih]
    split <;> omega
theorem pK2 : BL ^ 3 * 10000000 < 10000 ^ 16 ∧ (10000 : Nat) ^ 3 = 1000000000000 := by decide +kernel
theorem mk_eqD {x y E : Nat} (hE : 0 < E) : mkRat (x : Int) E = mkRat (y : Int) E ↔ x = y := by
  rw [Rat.mkRat_eq_iff (by omega) (by omega)]
  constructor
  · intro h
    rw [← Int.natCast_mul, ← Int.natCast_mul] at h
    exact Nat.eq_of_mul_eq_mul_right hE (Int.ofNat_inj.mp h)
  · intro h; rw [h]
theorem sign_zero {p q : Rat} : (p - q).num.sign = 0 ↔ p = q := by
  rw [Int.sign_eq_zero_iff_zero, Rat.num_eq_zero]
  constructor
  · intro h; grind
  · intro h; rw [h, Rat.sub_self]
abbrev styF : List Nat := [64, 65, 68, 81, 82, 83]
theorem s_stays {d : Nat} {M : Mem} {n s : Nat} {C S : Nat → Int} {A : Nat → Nat → Int} (hN : NR M n C S A) (hO : nOk n C S A) (hcl : closedOk n C A) (hs : s < 4 ^ n) (h2 : jS s n = 2) (hq : ∀ i, i < n → FQ M (70 + i) (lqQ n S A i)) : Post (d + 7) cM_stays [oM, .inl (s : Int)] M (fun v M' => FR styF M M' ∧ ((v = 1 ∧ styN n S A (lwN n S A) s) ∨ (v = 0 ∧ ¬ styN n S A (lwN n S A) s))) := by
  intro Q hQ
  have h4 := hO.1
  have p4 := (p4n n (by omega)).2
  have p0 : 0 < 4 ^ n := Nat.pow_pos (by decide)
  have hl1 : ∀ k, k < n → 0 < lwN n S A k ∧ lwN n S A k ≤ BL := fun k hk => lwN_r hO hcl hk
  have hSr : ∀ k, k < n → 1 ≤ S k ∧ S k ≤ 1000 := fun k hk => hO.2.2.2.2 k (by omega)
  have hAr : ∀ j k, j < n → k < n → 0 ≤ A j k ∧ A j k ≤ 100 := fun j k hj hk => hO.2.1.2.2.1 j k (by omega) (by omega)
  have hmv := mv_all n (by omega) s hs h2
  have hm2 : ∀ to, to < n → 0 < jA s to → ∀ fr, fr < n → jS (mvS s to fr) n = 2 := fun to a b fr c => (hmv to a b fr c).2.2
  have hK := clK_r hO hcl
  have pk := pK
  have pk2 := pK2
  have hD : 0 < clK n S A ^ 2 := Nat.pow_pos hK.1
  have hDb : clK n S A ^ 2 ≤ 27000000000000000000 ^ 3 := Nat.le_trans (Nat.pow_le_pow_left hK.2 _) (Nat.pow_le_pow_right (by decide) (by omega))
  have hE : 0 < clK n S A ^ 2 * 100 := Nat.mul_pos hD (by decide)
  generalize hDD : clK n S A ^ 2 = D at *
  have bdD : ∀ x : Nat, x ≤ BL ^ 3 * 10000000 → Bd (mkRat (x : Int) D) 16 := fun x hx => Bd_mkN hD (Nat.lt_of_le_of_lt hx pk2.1) (by omega)
  have bdE : ∀ x : Nat, x ≤ BL ^ 3 * 10000000 → Bd (mkRat (x : Int) (D * 100)) 16 := fun x hx => Bd_mkN hE (Nat.lt_of_le_of_lt hx pk2.1) (by omega)
  have sh : ∀ t, jS t n = 2 → shN (lwN n S A) t n ≤ BL ^ 3 := fun t ht => by
    have := (shN_r (s := t) (by decide) hl1 n (Nat.le_refl n)).2
    rw [ht] at this
    exact Nat.le_trans this (BL_pow (by decide))
  refine e_M_stays (b_M_stays_0 ?_)
  refine (s_sets (d := d + 1) (i := 81) (x := 0) (y := 1) (by decide) (by decide) (by decide) (by decide)).cal fun v1 M1 hM1 => ?_
  obtain ⟨f1, g1⟩ := hM1
  rw [Rat.zero_mkRat, ← Rat.zero_mkRat D] at g1
  refine (s_sets (d := d + 1) (i := 83) (x := 0) (y := 1) (by decide) (by decide) (by decide) (by decide)).cal fun v2 M2 hM2 => ?_
  obtain ⟨f2, g2⟩ := hM2
  rw [Rat.zero_mkRat, ← Rat.zero_mkRat (D * 100)] at g2
  have nk : ∀ {M2 : Mem}, FR styF M M2 → NR M2 n C S A := fun h => hN.kept h.fm (by simp) (by simp) (by simp) (by simp)
  have qk : ∀ {M2 : Mem}, FR styF M M2 → ∀ i, i < n → FQ M2 (70 + i) (mkRat ((lwN n S A i : Nat) : Int) (clK n S A)) := fun h i hi => (hq i hi).kept h (by omega) (by simp; omega)
  have outer : ∀ (f k : Nat), k + f = n → ∀ M3 o3, FR styF M M3 → FQ M3 81 (mkRat ((shN (lwN n S A) s n * lv2 S s k : Nat) : Int) D) → FQ M3 83 (mkRat ((cmN S A (lwN n S A) n s k : Nat) : Int) (D * 100)) → L_M_stays_12 (d + 6) Q M3 (s : Int) (k : Int) o3 := by
    intro f
    induction f with
    | zero =>
      intro k hk M3 o3 f3 a3 b3
      have hk : k = n := by omega
      subst hk
      have hlv := lvN_r (s := s) hSr k (Nat.le_refl k)
      rw [lv2_100] at hlv
      have hcm := cmN_r h4.2 hSr hAr hl1 hm2 k (Nat.le_refl k)
      have hfa : shN (lwN k S A) s k * lv2 S s k ≤ BL ^ 3 * 10000000 := Nat.mul_le_mul (sh s h2) (by omega)
      have hfb : cmN S A (lwN k S A) k s k ≤ BL ^ 3 * 10000000 := (fit_any (Nat.le_trans hcm (Nat.mul_le_mul h4.2 (Nat.le_refl _)))).2
      refine b_M_stays_12 ?_
      rw [(nk f3).1]
      refine ⟨⟨by omega, by omega⟩, ⟨by omega, by omega⟩, fun _ => ?_, fun z => absurd (Int.le_refl _) z⟩
      refine (s_compares (d := d) (a := 81) (b := 83) (ka := 16) (kb := 16) (by decide) (by decide) a3 b3 (bdD _ hfa) (bdE _ hfb) (by decide)).cal fun v4 M4 hM4 => ?_
      obtain ⟨f4, rfl⟩ := hM4
      have iff : (mkRat ((shN (lwN k S A) s k * lv2 S s k : Nat) : Int) D - mkRat ((cmN S A (lwN k S A) k s k : Nat) : Int) (D * 100)).num.sign = 0 ↔ styN k S A (lwN k S A) s := by
        rw [sign_zero, ← Rat.mkRat_mul_right (n := ((shN (lwN k S A) s k * lv2 S s k : Nat) : Int)) (d := D) (a := 100) (by decide), ← Int.natCast_mul, mk_eqD hE]
        show _ ↔ shN (lwN k S A) s k * lvN S s k = _
        rw [lv2_100, ← Nat.mul_assoc]
      have rs := sign_r (mkRat ((shN (lwN k S A) s k * lv2 S s k : Nat) : Int) D - mkRat ((cmN S A (lwN k S A) k s k : Nat) : Int) (D * 100)).num
      have F := f3.tr (f4.mono (l' := styF) (by simp))
      exact ⟨⟨by omega, by omega⟩, fun z => hQ _ _ ⟨F, Or.inr ⟨rfl, fun h => z (iff.mpr h)⟩⟩, fun z => hQ _ _ ⟨F, Or.inl ⟨rfl, iff.mp (Classical.not_not.mp z)⟩⟩⟩
    | succ f ih =>
      intro k hk M3 o3 f3 a3 b3
      have hkn : k < n := by omega
      have N3 := nk f3
      refine b_M_stays_12 ?_
      rw [N3.1]
      refine ⟨⟨by omega, by omega⟩, ⟨by omega, by omega⟩, fun z => absurd z (by omega), fun _ => ?_⟩
      refine (s_thereAt (d := d + 5) (show s < 256 by omega) (show k < 4 by omega)).cal fun v4 M4 hM4 => ?_
      obtain ⟨rfl, rfl⟩ := hM4
      have ja := jA_lt (s := s) (k := k)
      have st := fun M4 => ih (k + 1) (by omega) M4
      rw [show cmN S A (lwN n S A) n s (k + 1) = cmN S A (lwN n S A) n s k + (if jA s k = 0 then 0 else csN S A (lwN n S A) n s k n) from rfl, show lv2 S s (k + 1) = lv2 S s k + (if jA s k = 0 then 0 else (S k).toNat) from rfl] at st
      refine ⟨⟨by omega, by omega⟩, fun z => ?_, fun z => ?_⟩
      · have e : ¬ jA s k = 0 := fun e => z (by rw [e]; rfl)
        have hSk := hSr k hkn
        rw [if_neg e, if_neg e] at st
        have hcm := cmN_r h4.2 hSr hAr hl1 hm2 (k + 1) (by omega)
        rw [show cmN S A (lwN n S A) n s (k + 1) = cmN S A (lwN n S A) n s k + (if jA s k = 0 then 0 else csN S A (lwN n S A) n s k n) from rfl, if_neg e] at hcm
        have hlv := lvN_r (s := s) hSr (k + 1) (by omega)
        rw [lv2_100, show lv2 S s (k + 1) = lv2 S s k + (if jA s k = 0 then 0 else (S k).toNat) from rfl, if_neg e] at hlv
        refine (s_multipliesLoads (d := d) (K := clK n S A) (l := lwN n S A) N3.1 h4.2 (show s < 256 by omega) (by omega) hK hl1 (qk f3)).cal fun v5 M5 hM5 => ?_
        obtain ⟨f5, g5⟩ := hM5
        rw [h2, hDD] at g5
        have F5 := f3.tr (f5.mono (l' := styF) (by simp))
        rw [Int.toNat_natCast, (nk F5).2.2.1 k (by omega)]
        refine ⟨⟨by omega, by omega⟩, ⟨by omega, by omega⟩, ?_⟩
        obtain ⟨T, hT⟩ : ∃ T : Nat, S k = T := ⟨(S k).toNat, by omega⟩
        rw [hT, Int.toNat_natCast] at hlv
        rw [hT, Int.toNat_natCast] at st
        rw [hT]
        refine (s_sets (d := d + 1) (i := 64) (x := (T : Int)) (y := 1) (by decide) (by omega) (by decide) (by decide)).cal fun v6 M6 hM6 => ?_
        obtain ⟨f6, g6⟩ := hM6
        refine (s_multiplies (d := d + 1) (a := 82) (b := 64) (c := 65) (ka := 16) (kb := 1) (by decide) (by decide) (by decide) (g5.kept f6 (by decide) (by decide)) g6 (bdD _ (Nat.le_trans (sh s h2) (by decide))) (Bd_mkN (by decide) (by omega) (by decide)) (by decide)).cal fun v7 M7 hM7 => ?_
        obtain ⟨f7, g7⟩ := hM7
        rw [mk_mulD, Nat.mul_one] at g7
        have a7 := ((a3.kept f5 (by decide) (by decide)).kept f6 (by decide) (by decide)).kept f7 (by decide) (by decide)
        have b7 := ((b3.kept f5 (by decide) (by decide)).kept f6 (by decide) (by decide)).kept f7 (by decide) (by decide)
        have fa : shN (lwN n S A) s n * lv2 S s k ≤ BL ^ 3 * 10000000 := Nat.mul_le_mul (sh s h2) (by omega)
        have fb : shN (lwN n S A) s n * T ≤ BL ^ 3 * 10000000 := Nat.mul_le_mul (sh s h2) (by omega)
        refine (s_adds (d := d + 1) (a := 81) (b := 65) (c := 81) (ka := 16) (kb := 16) (by decide) (by decide) (by decide) a7 g7 (bdD _ fa) (bdD _ fb) (by decide)).cal fun v8 M8 hM8 => ?_
        obtain ⟨f8, g8⟩ := hM8
        rw [mk_addD hD, ← Nat.mul_add] at g8
        have F8 : FR styF M M8 := ((F5.tr (f6.mono (by simp))).tr (f7.mono (by simp))).tr (f8.mono (by simp))
        have inner : ∀ (g m : Nat), m + g = n → ∀ M9, FR styF M M9 → FQ M9 81 (mkRat ((shN (lwN n S A) s n * (lv2 S s k + T) : Nat) : Int) D) → FQ M9 83 (mkRat ((cmN S A (lwN n S A) n s k + csN S A (lwN n S A) n s k m : Nat) : Int) (D * 100)) → L_M_stays_46 (d + 6) Q M9 (s : Int) (k : Int) (m : Int) := by
          intro g
          induction g with
          | zero =>
            intro m hm M9 f9 a9 b9
            have hm : m = n := by omega
            subst hm
            refine b_M_stays_46 ?_
            rw [(nk f9).1, show (k : Int) + 1 = ((k + 1 : Nat) : Int) by omega]
            exact ⟨⟨by omega, by omega⟩, ⟨by omega, by omega⟩, fun _ => st M9 _ f9 a9 b9, fun z => absurd (Int.le_refl _) z⟩
          | succ g ihg =>
            intro m hm M9 f9 a9 b9
            have hmn : m < n := by omega
            have N9 := nk f9
            obtain ⟨mv1, mv2, mv3⟩ := hmv k hkn (by omega) m hmn
            refine b_M_stays_46 ?_
            rw [N9.1, mv_int mv1 (by omega) (by omega)]
            refine ⟨⟨by omega, by omega⟩, ⟨by omega, by omega⟩, fun z => absurd z (by omega), fun _ => ⟨⟨by omega, by omega⟩, ⟨by omega, by omega⟩, ?_⟩⟩
            refine (s_multipliesLoads (d := d) (K := clK n S A) (l := lwN n S A) N9.1 h4.2 (show mvS s k m < 256 by omega) (by omega) hK hl1 (qk f9)).cal fun v10 M10 hM10 => ?_
            obtain ⟨f10, g10⟩ := hM10
            rw [mv3, hDD] at g10
            have F10 := f9.tr (f10.mono (l' := styF) (by simp))
            have N10 := nk F10
            have hSm := hSr m hmn
            have hAm := hAr m k hmn hkn
            have eSA : S m * A m k = (((S m).toNat * (A m k).toNat : Nat) : Int) := by rw [Int.natCast_mul, show (((S m).toNat : Nat) : Int) = S m by omega, show (((A m k).toNat : Nat) : Int) = A m k by omega]
            have bSA : (S m).toNat * (A m k).toNat ≤ 1000 * 100 := Nat.mul_le_mul (by omega) (by omega)
            rw [Int.toNat_natCast, N10.2.2.1 m (by omega), show (4 * (m : Int) + (k : Int)).toNat = 4 * m + k by omega, N10.2.2.2 m k (by omega) (by omega), eSA, show (m : Int) + 1 = ((m + 1 : Nat) : Int) by omega]
            refine ⟨⟨by omega, by omega⟩, ⟨by omega, by omega⟩, ⟨by omega, by omega⟩, ⟨by omega, by omega⟩, ?_⟩
            have hcs : csN S A (lwN n S A) n s k (m + 1) = csN S A (lwN n S A) n s k m + ((S m).toNat * (A m k).toNat) * shN (lwN n S A) (mvS s k m) n := rfl
            generalize hSA : (S m).toNat * (A m k).toNat = X at *
            refine (s_sets (d := d + 1) (i := 64) (x := (X : Int)) (y := 100) (by decide) (by omega) (by decide) (by decide)).cal fun v11 M11 hM11 => ?_
            obtain ⟨f11, g11⟩ := hM11
            refine (s_multiplies (d := d + 1) (a := 82) (b := 64) (c := 65) (ka := 16) (kb := 3) (by decide) (by decide) (by decide) (g10.kept f11 (by decide) (by decide)) g11 (bdD _ (Nat.le_trans (sh _ mv3) (by decide))) (Bd_mkN (by decide) (by omega) (by omega)) (by decide)).cal fun v12 M12 hM12 => ?_
            obtain ⟨f12, g12⟩ := hM12
            rw [mk_mulD, Nat.mul_comm (shN (lwN n S A) (mvS s k m) n)] at g12
            have a12 := ((a9.kept f10 (by decide) (by decide)).kept f11 (by decide) (by decide)).kept f12 (by decide) (by decide)
            have b12 := ((b9.kept f10 (by decide) (by decide)).kept f11 (by decide) (by decide)).kept f12 (by decide) (by decide)
            have hmono : ∀ a b, a ≤ b → csN S A (lwN n S A) n s k a ≤ csN S A (lwN n S A) n s k b := fun a b hab => by
              induction b with
              | zero => rw [show a = 0 by omega]; exact Nat.le_refl _
              | succ b ihb =>
                by_cases q : a = b + 1
                · rw [q]; exact Nat.le_refl _
                · exact Nat.le_trans (ihb (by omega)) (Nat.le_add_right _ _)
            have fit0 : cmN S A (lwN n S A) n s k + csN S A (lwN n S A) n s k (m + 1) ≤ BL ^ 3 * 10000000 := (fit_any (Nat.le_trans (Nat.add_le_add_left (hmono (m + 1) n (by omega)) _) (Nat.le_trans hcm (Nat.mul_le_mul (by omega) (Nat.le_refl _))))).2
            rw [hcs] at fit0
            refine (s_adds (d := d + 1) (a := 83) (b := 65) (c := 83) (ka := 16) (kb := 16) (by decide) (by decide) (by decide) b12 g12 (bdE _ (by omega)) (bdE _ (by omega)) (by decide)).cal fun v13 M13 hM13 => ?_
            obtain ⟨f13, g13⟩ := hM13
            rw [mk_addD hE, Nat.add_assoc, ← hcs] at g13
            exact ihg (m + 1) (by omega) M13 (((F10.tr (f11.mono (by simp))).tr (f12.mono (by simp))).tr (f13.mono (by simp))) (a12.kept f13 (by decide) (by decide)) g13
        exact inner n 0 (by omega) M8 F8 g8 (b7.kept f8 (by decide) (by decide))
      · have e : jA s k = 0 := by omega
        rw [if_pos e, if_pos e, Nat.add_zero, Nat.add_zero] at st
        rw [show (k : Int) + 1 = ((k + 1 : Nat) : Int) by omega]
        exact st M4 _ f3 a3 b3
  exact outer n 0 (by omega) M2 _ ((f1.mono (by simp)).tr (f2.mono (by simp))) (g1.kept f2 (by decide) (by decide)) g2
theorem s_allStay {d : Nat} {M : Mem} {n : Nat} {C S : Nat → Int} {A : Nat → Nat → Int} (hN : NR M n C S A) (hO : nOk n C S A) (hcl : closedOk n C A) : Post (d + 8) cM_allStay [oM] M (fun v M' => FM [] [] errF M M' ∧ ((v = 1 ∧ styA n S A) ∨ (v = 0 ∧ ¬ styA n S A))) := by
  intro Q hQ
  have h4 := hO.1
  obtain ⟨e4, p4⟩ := p4n n (by omega)
  have p0 : 0 < 4 ^ n := Nat.pow_pos (by decide)
  refine e_M_allStay (b_M_allStay_0 ?_)
  refine (s_laysLoads (d := d) hN hO hcl).cal fun v1 M1 hM1 => ?_
  obtain ⟨f1, q1⟩ := hM1
  have N1 : NR M1 n C S A := hN.kept f1.fm (by simp) (by simp) (by simp) (by simp)
  have loop : ∀ (f s : Nat), s + f = 4 ^ n → ∀ (v : Int) M2, FR styF M1 M2 → ((v = 1 ∧ ∀ t, t < s → jS t n = 2 → styN n S A (lwN n S A) t) ∨ (v = 0 ∧ ¬ styA n S A)) → L_M_allStay_6 (d + 7) Q M2 v (s : Int) := by
    intro f
    induction f with
    | zero =>
      intro s hs v M2 f2 hv
      have hs : s = 4 ^ n := by omega
      subst hs
      have F : FM [] [] errF M M2 := (f1.err (by simp; omega)).tr (f2.err (by simp))
      refine b_M_allStay_6 ?_
      rw [f2.1 175 (by decide) (by decide) (by decide), N1.1, e4]
      refine ⟨⟨by omega, by omega⟩, ⟨by omega, by omega⟩, ⟨by omega, by omega⟩, fun _ => ?_, fun z => absurd (Int.le_refl _) z⟩
      rcases hv with ⟨rfl, h⟩ | ⟨rfl, h⟩
      · exact ⟨Or.inr rfl, hQ _ _ ⟨F, Or.inl ⟨rfl, h⟩⟩⟩
      · exact ⟨Or.inl rfl, hQ _ _ ⟨F, Or.inr ⟨rfl, h⟩⟩⟩
    | succ f ih =>
      intro s hs v M2 f2 hv
      have N2 : NR M2 n C S A := N1.kept f2.fm (by simp) (by simp) (by simp) (by simp)
      refine b_M_allStay_6 ?_
      rw [N2.1, e4, show (s : Int) + 1 = ((s + 1 : Nat) : Int) by omega]
      refine ⟨⟨by omega, by omega⟩, ⟨by omega, by omega⟩, ⟨by omega, by omega⟩, fun z => absurd z (by omega), fun _ => ?_⟩
      rcases hv with ⟨rfl, hall⟩ | ⟨rfl, h⟩
      · have nx : ∀ M3, FR styF M1 M3 → (jS s n = 2 → styN n S A (lwN n S A) s) → L_M_allStay_6 (d + 7) Q M3 1 ((s + 1 : Nat) : Int) := fun M3 f3 h => ih (s + 1) (by omega) 1 M3 f3 (Or.inl ⟨rfl, fun t ht h2 => by
          by_cases e : t = s
          · rw [e] at h2 ⊢; exact h h2
          · exact hall t (by omega) h2⟩)
        have j4 : jS s 4 ≤ 12 := by
          have a0 := jA_lt (s := s) (k := 0)
          have a1 := jA_lt (s := s) (k := 1)
          have a2 := jA_lt (s := s) (k := 2)
          have a3 := jA_lt (s := s) (k := 3)
          show 0 + jA s 0 + jA s 1 + jA s 2 + jA s 3 ≤ 12
          omega
        refine ⟨⟨by decide, by decide⟩, fun z => absurd z (by decide), fun _ => ?_⟩
        refine (s_inState (d := d + 5) (show s < 256 by omega)).cal fun v3 M3 hM3 => ?_
        obtain ⟨rfl, rfl⟩ := hM3
        have ej := jS_all n (by omega) s (by omega)
        refine ⟨⟨by omega, by omega⟩, fun z => nx M3 f2 fun h => absurd (by rw [ej, h]; rfl) z, fun z => ?_⟩
        have h2 : jS s n = 2 := by omega
        refine (s_stays (d := d) N2 hO hcl (show s < 4 ^ n by omega) h2 (fun i hi => (q1 i hi).kept f2 (by omega) (by simp; omega))).cal fun v4 M4 hM4 => ?_
        obtain ⟨f4, hv⟩ := hM4
        rcases hv with ⟨rfl, h⟩ | ⟨rfl, h⟩
        · exact ⟨⟨by decide, by decide⟩, fun z => absurd z (by decide), fun _ => nx M4 (f2.tr f4) fun _ => h⟩
        · exact ⟨⟨by decide, by decide⟩, fun _ => ih (s + 1) (by omega) 0 M4 (f2.tr f4) (Or.inr ⟨rfl, fun hA => h (hA s (by omega) h2)⟩), fun z => absurd rfl z⟩
      · exact ⟨⟨by decide, by decide⟩, fun _ => ih (s + 1) (by omega) 0 M2 f2 (Or.inr ⟨rfl, h⟩), fun z => absurd rfl z⟩
  exact loop (4 ^ n) 0 (by omega) 1 M1 FR.rfl' (Or.inl ⟨rfl, fun t h => absurd h (Nat.not_lt_zero t)⟩)
