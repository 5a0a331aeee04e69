/-! errors: the long shares stay, the reference. -/
theorem tree_ex {n s : Nat} {b : Int} {A : Nat → Nat → Int} (hO : cOk n b A) : ∃ t : Nat → Int, ∀ i, i < n → treV n s b A i (t i) := by
  have h : ∀ i, ∃ v, treV n s b A i v := fun i => by
    cases hb : s.testBit i
    · exact ⟨0, Or.inr ⟨hb, rfl⟩⟩
    · obtain ⟨z, z1, _⟩ := wed_whole (W := cnt (s ^^^ 2 ^ i) n) (R := eNQ b A (s ^^^ 2 ^ i) n (-1)) (a := 100) (by decide) (cnt (s ^^^ 2 ^ i) n) (fun a c ha hc => ⟨_, rfl, eN_r hO (Or.inl rfl) ha (Nat.le_of_lt hc)⟩) (full (cnt (s ^^^ 2 ^ i) n))
      exact ⟨z, Or.inl ⟨hb, z1.symm⟩⟩
  exact ⟨fun i => Classical.choose (h i), fun i _ => Classical.choose_spec (h i)⟩
theorem selT {n s : Nat} {f : Nat → Int} (h : ∀ j, j < n → s.testBit j = false → f j = 0) : sumT (fun a => f (sel s n a)) (cnt s n) = sumT f n := by
  have e := sum_sel (s := s) (f := fun j => ((f j : Int) : Rat)) n
  rw [sumQ_congr (g := fun j => ((f j : Int) : Rat)) n fun j hj => ?_, sumQ_cast (f := f), sumQ_cast (f := fun a => f (sel s n a))] at e
  · exact Rat.intCast_inj.mp e
  · cases hb : s.testBit j
    · rw [if_neg (by decide), h j hj hb]; rfl
    · rw [if_pos rfl]
theorem sumK_mono {f : Nat → Nat} {m k : Nat} (h : m ≤ k) : sumK f m ≤ sumK f k := by
  induction k with
  | zero => rw [show m = 0 by omega]; exact Nat.le_refl _
  | succ k ih =>
    by_cases e : m = k + 1
    · rw [e]; exact Nat.le_refl _
    · have := ih (by omega)
      show sumK f m ≤ sumK f k + f k
      omega
theorem sumK_cast {f : Nat → Nat} {g : Nat → Int} : ∀ m, (∀ j, j < m → ((f j : Nat) : Int) = g j) → ((sumK f m : Nat) : Int) = sumT g m := by
  intro m
  induction m with
  | zero => intro _; rfl
  | succ m ih => intro h; show ((sumK f m + f m : Nat) : Int) = sumT g m + g m; rw [Int.natCast_add, ih fun j hj => h j (by omega), h m (by omega)]
/-- the long shares over one number -/
theorem sh_nat {n s b : Nat} {A : Nat → Nat → Int} (hO : cOk n (b : Int) A) (hla : lawful n (b : Int) A) (hG : isGrp n (cE n A (-1)) s) : ∃ (u : Nat → Nat) (U : Nat), 0 < U ∧ U ≤ 400000000000000000 ∧ (∀ a, a < cnt s n → shQ b A s n a = mkRat ((u a : Nat) : Int) U ∧ u a ≤ 46656000000000000) ∧ sumK u (cnt s n) = U ∧ ∀ k, k < cnt s n → sumK (fun a => (A (sel s n a) (sel s n k)).toNat * u a) (cnt s n) = b * u k := by
  have h7 := hO.1
  obtain ⟨t, ht⟩ := tree_ex (s := s) hO
  obtain ⟨W, hW, hN, hv, hr, hs1, hs2, hs3⟩ := tree_val hO hla hG ht
  obtain ⟨W', hW', _, _, _, _, _, hsh⟩ := grp_shares hO (fun a ha => Int.le_of_eq (hla a ha)) (fun a ha _ => hla a ha) hG
  have eW : W' = W := by omega
  subst eW
  have h600 : (600 : Int) ^ 6 = 46656000000000000 := by decide +kernel
  have zt : ∀ j, j < n → s.testBit j = false → t j = 0 := fun j hj hb => by
    rcases ht j hj with ⟨q, _⟩ | ⟨_, h⟩
    · rw [hb] at q; cases q
    · exact h
  have hu : ∀ a, a < cnt s n → (((t (sel s n a)).toNat : Nat) : Int) = t (sel s n a) := fun a ha => by
    have := hr _ (sel_in ha).1
    omega
  refine ⟨fun a => (t (sel s n a)).toNat, (sumT t n).toNat, by omega, by omega, fun a ha => ⟨?_, ?_⟩, ?_, fun k hk => ?_⟩
  · obtain ⟨a1, a2, a3⟩ := sel_in ha
    have e := hv _ a1 a2
    rw [a3] at e
    rw [hsh a ha, hW', ← hs1, ← e, mkRat_ratio, hu a ha, show (((sumT t n).toNat : Nat) : Int) = sumT t n by omega]
  · show (t (sel s n a)).toNat ≤ _
    have := hr _ (sel_in ha).1
    omega
  · have e := sumK_cast (f := fun a => (t (sel s n a)).toNat) (g := fun a => t (sel s n a)) (cnt s n) hu
    rw [selT zt] at e
    omega
  · obtain ⟨k1, k2, k3⟩ := sel_in hk
    have e := sumK_cast (f := fun a => (A (sel s n a) (sel s n k)).toNat * (t (sel s n a)).toNat) (g := fun a => (fun j => t j * A j (sel s n k)) (sel s n a)) (cnt s n) fun a ha => by
      have hA := hO.2.2.1 (sel s n a) (sel s n k) (by have := (sel_in ha).1; omega) (by omega)
      show (((A (sel s n a) (sel s n k)).toNat * (t (sel s n a)).toNat : Nat) : Int) = t (sel s n a) * A (sel s n a) (sel s n k)
      rw [Int.natCast_mul, hu a ha, show (((A (sel s n a) (sel s n k)).toNat : Nat) : Int) = A (sel s n a) (sel s n k) by omega, Int.mul_comm]
    rw [selT (f := fun j => t j * A j (sel s n k)) (fun j hj hb => by show t j * _ = 0; rw [zt j hj hb, Int.zero_mul]), tree_stay hO hla hG ht k1, ← hu k hk, Int.mul_comm, ← Int.natCast_mul] at e
    exact Int.ofNat_inj.mp e
abbrev errF : List Nat := 81 :: 82 :: 83 :: List.range 80
theorem FR.err {l cs ss : List Nat} {M M' : Mem} (h : FR l M M') (hl : ∀ a, a ∈ l → a < 84 ∧ a ≠ 80) : FM cs ss errF M M' := h.fm.mono (by simp) (by simp) fun a ha => by
  have := hl a ha
  simp
  omega
theorem FM.err {l cs ss cs' ss' : List Nat} {M M' : Mem} (h : FM cs ss l M M') (h1 : ∀ a, a ∈ cs → a ∈ cs') (h2 : ∀ a, a ∈ ss → a ∈ ss') (hl : ∀ a, a ∈ l → a < 84 ∧ a ≠ 80) : FM cs' ss' errF M M' := h.mono h1 h2 fun a ha => by
  have := hl a ha
  simp
  omega
theorem sub_sign0 {p : Rat} : (p - p).num.sign = 0 := by
  rw [Rat.sub_self]; rfl
theorem mk_self {U : Nat} (h : 0 < U) : mkRat (U : Int) U = 1 := by
  have h2 : (((U : Nat) : Int) : Rat) ≠ 0 := int_ne (by omega)
  rw [mkRat_ratio]
  generalize (((U : Nat) : Int) : Rat) = u at *
  grind
theorem p5 : (10000 : Nat) ^ 5 = 100000000000000000000 ∧ (10000 : Nat) ^ 1 = 10000 := by decide
theorem s_areShares {d : Nat} {M : Mem} {n s b : Nat} {A : Nat → Nat → Int} (hC : RC M n (b : Int) A) (hO : cOk n (b : Int) A) (hla : lawful n (b : Int) A) (hG : isGrp n (cE n A (-1)) s) : Post (d + 8) cM_areShares [oM, .inl (s : Int)] M (fun v M' => FM [173] [] errF M M' ∧ v = 1) := by
  intro Q hQ
  have h7 := hO.1
  have hb := hO.2.1
  have hcn := cnt_le (s := s) n
  obtain ⟨u, U, u0, u1, hu, hU, hP⟩ := sh_nat hO hla hG
  have p5' := p5
  have hbU : b * U ≤ 100 * 400000000000000000 := Nat.mul_le_mul (by omega) u1
  have hbU0 : 0 < b * U := Nat.mul_pos (by omega) u0
  have bdU : ∀ x : Nat, x ≤ 99000000000000000000 → Bd (mkRat (x : Int) U) 5 := fun x hx => Bd_mkN u0 (by omega) (by omega)
  have bdB : ∀ x : Nat, x ≤ 99000000000000000000 → Bd (mkRat (x : Int) (b * U)) 5 := fun x hx => Bd_mkN hbU0 (by omega) (by omega)
  refine e_M_areShares (b_M_areShares_0 ?_)
  refine (s_solvesShares (d := d) hC hO hla hG).cal fun v1 M1 hM1 => ?_
  obtain ⟨f1, rfl, k1, q1⟩ := hM1
  have q1 : ∀ a, a < cnt s n → FQ M1 (56 + a) (mkRat ((u a : Nat) : Int) U) := fun a ha => by rw [← (hu a ha).1]; exact q1 a ha
  refine (s_sets (d := d + 2) (i := 81) (x := 0) (y := 1) (by decide) (by decide) (by decide) (by decide)).cal fun v2 M2 hM2 => ?_
  obtain ⟨f2, g2⟩ := hM2
  rw [Rat.zero_mkRat, ← Rat.zero_mkRat U] at g2
  have outer : ∀ (f k : Nat), k + f = cnt s n → ∀ M3 o1 o5, FM [173] [] errF M M3 → (∀ a, a < cnt s n → M3 173 a = ((sel s n a : Nat) : Int)) → (∀ a, a < cnt s n → FQ M3 (56 + a) (mkRat ((u a : Nat) : Int) U)) → FQ M3 81 (mkRat ((sumK u k : Nat) : Int) U) → L_M_areShares_13 (d + 7) Q M3 o1 ((cnt s n : Nat) : Int) 1 (k : Int) o5 := by
    intro f
    induction f with
    | zero =>
      intro k hk M3 o1 o5 f3 k3 q3 g3
      have hk : k = cnt s n := by omega
      subst hk
      rw [hU, mk_self u0] at g3
      refine b_M_areShares_13 ⟨⟨by omega, by omega⟩, ⟨by omega, by omega⟩, fun _ => ?_, fun z => absurd (Int.le_refl _) z⟩
      refine (s_sets (d := d + 2) (i := 67) (x := 1) (y := 1) (by decide) (by decide) (by decide) (by decide)).cal fun v4 M4 hM4 => ?_
      obtain ⟨f4, g4⟩ := hM4
      rw [mkOne] at g4
      refine ⟨⟨by decide, by decide⟩, fun z => absurd z (by decide), fun _ => ?_⟩
      have b1 : Bd (1 : Rat) 1 := ⟨by decide, by decide⟩
      refine (s_compares (d := d + 1) (a := 81) (b := 67) (ka := 1) (kb := 1) (by decide) (by decide) (g3.kept f4 (by decide) (by decide)) g4 b1 b1 (by decide)).cal fun v5 M5 hM5 => ?_
      obtain ⟨f5, rfl⟩ := hM5
      rw [sub_sign0]
      exact ⟨⟨by decide, by decide⟩, fun z => absurd rfl z, fun _ => hQ _ _ ⟨(f3.tr (f4.err (by simp))).tr (f5.err (by simp)), rfl⟩⟩
    | succ f ih =>
      intro k hk M3 o1 o5 f3 k3 q3 g3
      have hkc : k < cnt s n := by omega
      have hsk : sumK u k ≤ U := by rw [← hU]; exact sumK_mono (by omega)
      obtain ⟨_, hub⟩ := hu k hkc
      refine b_M_areShares_13 ⟨⟨by omega, by omega⟩, ⟨by omega, by omega⟩, fun z => absurd z (by omega), fun _ => ?_⟩
      rw [show 56 + (k : Int) = ((56 + k : Nat) : Int) by omega]
      refine (s_adds (d := d + 2) (a := 81) (b := 56 + k) (c := 81) (ka := 5) (kb := 5) (by decide) (by omega) (by decide) g3 (q3 k hkc) (bdU _ (by omega)) (bdU _ (by omega)) (by decide)).cal fun v4 M4 hM4 => ?_
      obtain ⟨f4, g4⟩ := hM4
      rw [mk_addD u0] at g4
      refine (s_sets (d := d + 2) (i := 82) (x := 0) (y := 1) (by decide) (by decide) (by decide) (by decide)).cal fun v5 M5 hM5 => ?_
      obtain ⟨f5, g5⟩ := hM5
      rw [Rat.zero_mkRat, ← Rat.zero_mkRat (b * U)] at g5
      have inner : ∀ (e i : Nat), i + e = cnt s n → ∀ M6, FM [173] [] errF M M6 → (∀ a, a < cnt s n → M6 173 a = ((sel s n a : Nat) : Int)) → (∀ a, a < cnt s n → FQ M6 (56 + a) (mkRat ((u a : Nat) : Int) U)) → FQ M6 81 (mkRat ((sumK u (k + 1) : Nat) : Int) U) → FQ M6 82 (mkRat ((sumK (fun a => (A (sel s n a) (sel s n k)).toNat * u a) i : Nat) : Int) (b * U)) → L_M_areShares_31 (d + 7) Q M6 o1 ((cnt s n : Nat) : Int) 1 (k : Int) (i : Int) := by
        intro e
        induction e with
        | zero =>
          intro i hi M6 f6 k6 q6 g6 p6
          have hi : i = cnt s n := by omega
          subst hi
          have e2 : mkRat ((b * u k : Nat) : Int) (b * U) = mkRat ((u k : Nat) : Int) U := by
            rw [Int.natCast_mul]
            exact Rat.mkRat_mul_left (by omega)
          rw [hP k hkc, e2] at p6
          refine b_M_areShares_31 ⟨⟨by omega, by omega⟩, ⟨by omega, by omega⟩, fun _ => ⟨⟨by decide, by decide⟩, fun z => absurd z (by decide), fun _ => ?_⟩, fun z => absurd (Int.le_refl _) z⟩
          rw [show 56 + (k : Int) = ((56 + k : Nat) : Int) by omega, show (k : Int) + 1 = ((k + 1 : Nat) : Int) by omega]
          refine (s_compares (d := d + 1) (a := 82) (b := 56 + k) (ka := 5) (kb := 5) (by decide) (by omega) p6 (q6 k hkc) (bdU _ (by omega)) (bdU _ (by omega)) (by decide)).cal fun v7 M7 hM7 => ?_
          obtain ⟨f7, rfl⟩ := hM7
          rw [sub_sign0]
          refine ⟨⟨by decide, by decide⟩, fun z => absurd rfl z, fun _ => ih (k + 1) (by omega) M7 _ _ (f6.tr (f7.err (by simp))) (fun a ha => by rw [f7.1 173 (by decide) (by decide) (by decide)]; exact k6 a ha) (fun a ha => (q6 a ha).kept f7 (by omega) (by simp; omega)) (g6.kept f7 (by decide) (by decide))⟩
        | succ e ihe =>
          intro i hi M6 f6 k6 q6 g6 p6
          have hic : i < cnt s n := by omega
          obtain ⟨i1, _, _⟩ := sel_in hic
          obtain ⟨k1', _, _⟩ := sel_in hkc
          obtain ⟨_, hui⟩ := hu i hic
          have C6 := hC.fm' f6 (by decide) (by simp) (by simp)
          have hA := hO.2.2.1 (sel s n i) (sel s n k) (by omega) (by omega)
          obtain ⟨X, hX⟩ : ∃ X : Nat, A (sel s n i) (sel s n k) = X := ⟨(A (sel s n i) (sel s n k)).toNat, by omega⟩
          have hsp : sumK (fun a => (A (sel s n a) (sel s n k)).toNat * u a) i ≤ b * u k := by rw [← hP k hkc]; exact sumK_mono (by omega)
          have hbu : b * u k ≤ 100 * 46656000000000000 := Nat.mul_le_mul (by omega) hub
          have hXu : X * u i ≤ 100 * 46656000000000000 := Nat.mul_le_mul (by omega) hui
          refine b_M_areShares_31 ?_
          rw [Int.toNat_natCast, Int.toNat_natCast, k6 i hic, k6 k hkc, show (7 * ((sel s n i : Nat) : Int) + ((sel s n k : Nat) : Int)).toNat = 7 * sel s n i + sel s n k by omega, C6.2.2 _ _ (by omega) (by omega), C6.2.1, hX]
          refine ⟨⟨by omega, by omega⟩, ⟨by omega, by omega⟩, fun z => absurd z (by omega), fun _ => ⟨⟨by omega, by omega⟩, ⟨by omega, by omega⟩, ⟨by omega, by omega⟩, ⟨by omega, by omega⟩, ⟨by omega, by omega⟩, ?_⟩⟩
          refine (s_sets (d := d + 2) (i := 64) (x := (X : Int)) (y := b) (by decide) (by omega) (by omega) (by omega)).cal fun v7 M7 hM7 => ?_
          obtain ⟨f7, g7⟩ := hM7
          rw [show 56 + (i : Int) = ((56 + i : Nat) : Int) by omega, show (i : Int) + 1 = ((i + 1 : Nat) : Int) by omega]
          refine (s_multiplies (d := d + 2) (a := 64) (b := 56 + i) (c := 65) (ka := 1) (kb := 5) (by decide) (by omega) (by decide) g7 ((q6 i hic).kept f7 (by omega) (by simp; omega)) (Bd_mkN (by omega) (by omega) (by omega)) (bdU _ (by omega)) (by decide)).cal fun v8 M8 hM8 => ?_
          obtain ⟨f8, g8⟩ := hM8
          rw [mk_mulD] at g8
          refine (s_adds (d := d + 2) (a := 82) (b := 65) (c := 82) (ka := 5) (kb := 5) (by decide) (by decide) (by decide) ((p6.kept f7 (by decide) (by decide)).kept f8 (by decide) (by decide)) g8 (bdB _ (by omega)) (bdB _ (by omega)) (by decide)).cal fun v9 M9 hM9 => ?_
          obtain ⟨f9, g9⟩ := hM9
          rw [mk_addD hbU0] at g9
          refine ihe (i + 1) (by omega) M9 (((f6.tr (f7.err (by simp))).tr (f8.err (by simp))).tr (f9.err (by simp))) (fun a ha => by rw [f9.1 173 (by decide) (by decide) (by decide), f8.1 173 (by decide) (by decide) (by decide), f7.1 173 (by decide) (by decide) (by decide)]; exact k6 a ha) (fun a ha => (((q6 a ha).kept f7 (by omega) (by simp; omega)).kept f8 (by omega) (by simp; omega)).kept f9 (by omega) (by simp; omega)) (((g6.kept f7 (by decide) (by decide)).kept f8 (by decide) (by decide)).kept f9 (by decide) (by decide)) ?_
          rw [show sumK (fun a => (A (sel s n a) (sel s n k)).toNat * u a) (i + 1) = sumK (fun a => (A (sel s n a) (sel s n k)).toNat * u a) i + X * u i by
            show _ + (A (sel s n i) (sel s n k)).toNat * u i = _
            rw [hX, Int.toNat_natCast]]
          exact g9
      refine inner (cnt s n) 0 (by omega) M5 ((f3.tr (f4.err (by simp))).tr (f5.err (by simp))) (fun a ha => by rw [f5.1 173 (by decide) (by decide) (by decide), f4.1 173 (by decide) (by decide) (by decide)]; exact k3 a ha) (fun a ha => ((q3 a ha).kept f4 (by omega) (by simp; omega)).kept f5 (by omega) (by simp; omega)) (g4.kept f5 (by decide) (by decide)) g5
  exact outer (cnt s n) 0 (by omega) M2 _ _ ((f1.err (fun _ h => h) (by simp) (by simp; omega)).tr (f2.err (by simp))) (fun a ha => by rw [f2.1 173 (by decide) (by decide) (by decide)]; exact k1 a ha) (fun a ha => (q1 a ha).kept f2 (by omega) (by simp; omega)) g2
theorem s_areAllShares {d : Nat} {M : Mem} {n : Nat} {b : Int} {A : Nat → Nat → Int} (hC : RC M n b A) (hO : cOk n b A) (hla : lawful n b A) : Post (d + 9) cM_areAllShares [oM] M (fun v M' => FM [173] [] errF M M' ∧ v = 1) := by
  intro Q hQ
  have h7 := hO.1
  have hb := hO.2.1
  obtain ⟨B, rfl⟩ : ∃ B : Nat, b = B := ⟨b.toNat, by omega⟩
  refine e_M_areAllShares (b_M_areAllShares_0 ?_)
  have loop : ∀ (f k : Nat), k + f = n → ∀ M1 o3, FM [173] [] errF M M1 → L_M_areAllShares_4 (d + 8) Q M1 1 (k : Int) o3 := by
    intro f
    induction f with
    | zero =>
      intro k hk M1 o3 f1
      have hk : k = n := by omega
      subst hk
      refine b_M_areAllShares_4 ?_
      rw [(hC.fm' f1 (by decide) (by simp) (by simp)).1]
      exact ⟨⟨by omega, by omega⟩, ⟨by omega, by omega⟩, fun _ => ⟨Or.inr rfl, hQ _ _ ⟨f1, rfl⟩⟩, fun z => absurd (Int.le_refl _) z⟩
    | succ f ih =>
      intro k hk M1 o3 f1
      have C1 := hC.fm' f1 (by decide) (by simp) (by simp)
      refine b_M_areAllShares_4 ?_
      rw [C1.1, show (k : Int) + 1 = ((k + 1 : Nat) : Int) by omega]
      refine ⟨⟨by omega, by omega⟩, ⟨by omega, by omega⟩, fun z => absurd z (by omega), fun _ => ?_⟩
      have hkn : k < n := by omega
      refine (s_groupOf (d := d + 6) C1 hO hkn).cal fun v2 M2 hM2 => ?_
      obtain ⟨rfl, hv2⟩ := hM2
      refine ⟨⟨by decide, by decide⟩, fun z => absurd z (by decide), fun _ => ?_⟩
      rcases hv2 with ⟨rfl, g⟩ | ⟨g, s, rfl, s2⟩
      · exact ⟨⟨by decide, by decide⟩, fun _ => ih (k + 1) (by omega) M2 _ f1, fun z => absurd rfl z⟩
      · have hs0 := (set_ne s2 hkn).2
        have hsk := (set_ne s2 hkn).1
        have s1 := s2.1
        refine ⟨⟨by omega, by omega⟩, fun z => absurd z hs0, fun _ => ?_⟩
        refine (s_leastOf (d := d + 7) s1 (show k < 7 by omega) hsk).cal fun v3 M3 hM3 => ?_
        obtain ⟨rfl, l, rfl, l1, _⟩ := hM3
        refine ⟨⟨by omega, by omega⟩, fun z => ih (k + 1) (by omega) M3 _ f1, fun z => ?_⟩
        refine (s_areShares (d := d) C1 hO hla (isGrp.of s2 g hkn)).cal fun v4 M4 hM4 => ?_
        obtain ⟨f4, rfl⟩ := hM4
        exact ⟨⟨by decide, by decide⟩, fun z => absurd z (by decide), fun _ => ih (k + 1) (by omega) M4 _ (f1.tr f4)⟩
  exact loop n 0 (by omega) M _ FM.rfl'
