/-! isReached: the chances and the times are asked. -/
theorem x_num {x : Rat} {X D : Int} (hD : 0 < D) (hx : x = (X : Rat) / (D : Rat)) : (x.num ≤ 0 ↔ X ≤ 0) ∧ (x.num ≤ x.den ↔ X ≤ D) ∧ (x = 1 ↔ X = D) := by
  have hc := cross_x hD hx
  have hd : 0 < (x.den : Int) := by have := x.den_pos; omega
  have hDz : (D : Rat) ≠ 0 := fun z => by have := Rat.intCast_eq_zero_iff.mp z; omega
  refine ⟨⟨fun z => ?_, fun z => ?_⟩, ⟨fun z => ?_, fun z => ?_⟩, ⟨fun z => ?_, fun z => ?_⟩⟩
  · have h1 := Int.mul_le_mul_of_nonneg_right z (Int.le_of_lt hD)
    rw [hc, Int.zero_mul] at h1
    rcases Int.lt_or_le 0 X with w | w
    · have := Int.mul_pos w hd; omega
    · exact w
  · have h1 := Int.mul_le_mul_of_nonneg_right z (Int.le_of_lt hd)
    rw [← hc, Int.zero_mul] at h1
    rcases Int.lt_or_le 0 x.num with w | w
    · have := Int.mul_pos w hD; omega
    · exact w
  · have h1 := Int.mul_le_mul_of_nonneg_right z (Int.le_of_lt hD)
    rw [hc, Int.mul_comm (x.den : Int) D] at h1
    exact Int.le_of_mul_le_mul_right h1 hd
  · have h1 := Int.mul_le_mul_of_nonneg_right z (Int.le_of_lt hd)
    rw [← hc, Int.mul_comm D (x.den : Int)] at h1
    exact Int.le_of_mul_le_mul_right h1 hD
  · rw [hx] at z
    have h2 : (X : Rat) = (D : Rat) := by
      generalize (D : Rat) = y at *
      generalize (X : Rat) = w at *
      grind
    exact Rat.intCast_inj.mp h2
  · rw [hx, z]
    generalize (D : Rat) = y at *
    grind
section RC3
variable {d : Nat} {Q : LQ} {C0 : LMem} {j : StJ} {l : StL} {nt : StN} {e : StE} {gm : StG} {h : StH} {tp : StT} {r r4 r5 r7 r8 n g : Nat} {b D : Int} {A : Nat → Nat → Int} {P PB : Nat → Nat} {T B : Nat → Nat → Int} {X : Nat → Int} {o10 o11 o12 o13 o14 o15 o16 o17 : Option PV}
theorem tim_ok (hO : cOk n b A) (hla : lawful n b A) (hn : n ≤ 4) (hb4 : b ≤ 4) (hg : g < n) {i : Nat} (hi : i < n) (hs : sure n A i g) {w : Rat} (hw : timV n b A i g w) : Bq w 1728 1728 := by
  by_cases e : i = g
  · rcases hw with ⟨-, rfl⟩ | ⟨z, -⟩
    · exact ⟨by decide, by decide⟩
    · exact absurd e z
  · obtain ⟨Y, E, h1, h2, h3, -⟩ := tim_nums hO hla hn hb4 hg hi e hs
    rw [h3 i w hi (Or.inl rfl) hw]
    have := h2 i hi
    exact (Bq_div (by omega)).mono (by omega) (by omega)
set_option maxHeartbeats 4000000 in
theorem rc_13 (hn : 1 ≤ n ∧ n ≤ 4) (hb4 : 1 ≤ b ∧ b ≤ 4) (hla : lawful n b A) (hg : g < n) (hBr : ∀ y x, y < n → x < n → tv (Rch (cEE n A) y x) (B y x)) (hX : RX n g b A X D) (hXv : ∀ i v, i < n → rchV n b A i g v → v = ((X i : Int) : Rat) / ((D : Int) : Rat))
    (hN : ∀ (M : Mem) (C : LMem) (kc : Nat) (R R' : Nat → Nat) (x t : Nat → Rat) (o10 o11 : Option PV), kc ≤ 200 → IQ j l (n, b, A) nt e gm h tp M → CRq C0 r r4 r5 r7 r8 n P T PB B n R x n (fun k => sure n A k g) R' t C → (∀ k, k < n → x k = ((X k : Int) : Rat) / ((D : Int) : Rat)) → (∀ k, k < n → sure n A k g → timV n b A k g (t k)) → L_W_isReached_13 (d + 130) Q M C kc r r4 r5 (n : Int) b (g : Int) r7 r8 (n : Int) o10 o11 o12 o13 o14 o15 o16 o17) :
    ∀ (u i : Nat) (M : Mem) (C : LMem) (kc : Nat) (R R' : Nat → Nat) (x t : Nat → Rat) (o10 o11 : Option PV), i + u = n → kc + 20 * u ≤ 200 → IQ j l (n, b, A) nt e gm h tp M → CRq C0 r r4 r5 r7 r8 n P T PB B i R x i (fun k => sure n A k g) R' t C → (∀ k, k < i → x k = ((X k : Int) : Rat) / ((D : Int) : Rat)) → (∀ k, k < i → sure n A k g → timV n b A k g (t k)) → L_W_isReached_13 (d + 130) Q M C kc r r4 r5 (n : Int) b (g : Int) r7 r8 (i : Int) o10 o11 o12 o13 o14 o15 o16 o17 := by
  intro u
  induction u with
  | zero =>
    intro i M C kc R R' x t o10 o11 hi hkc q hV hx ht
    obtain rfl : i = n := by omega
    exact hN M C kc R R' x t _ _ (by omega) q hV hx ht
  | succ u ih =>
    intro i M C kc R R' x t o10 o11 hi hkc q hV hx ht
    have hi9 : i < n := by omega
    have hO := q.ch.1
    have hD := hX.1
    have hXi := hX.2.1 i hi9
    refine b_W_isReached_13 ⟨⟨by omega, by omega⟩, ⟨by omega, by omega⟩, fun z => absurd z (by omega), fun _ => ⟨by omega, ?_⟩⟩
    refine c_reach q (a := (i : Int)) (b := (g : Int)) (y := 0) (z := 0) ⟨⟨by omega, by show (i : Int) < (n : Int); omega⟩, by omega, by show (g : Int) < (n : Int); omega⟩ hla ⟨by decide, by decide⟩ ⟨by decide, by decide⟩ _ ?_
    rintro v1 M1 C1 ⟨rfl, q1, v, hv, hcf, rfl⟩
    rw [Int.toNat_natCast, Int.toNat_natCast] at hv
    have ev : v = ((X i : Int) : Rat) / ((D : Int) : Rat) := hXv i v hi9 hv
    have hBv : Bq v 1728 1728 := by rw [ev]; exact (Bq_div (by omega)).mono (by omega) (by omega)
    obtain ⟨n1, n2, n3⟩ := x_num hD.1 ev
    have okv : ok63 v := hBv.ok (by decide) (by decide)
    refine ⟨by omega, ?_⟩
    refine s_came (d := d + 1) hcf okv _ ?_
    rintro v2 M2 C2 ⟨rfl, q2, rfl, hq2, hf2, hl2⟩
    have hV2 := hV.off hf2
    obtain ⟨f, f1, f2⟩ := hV2.2.2.1
    have hV3 := hV2.setx f1 hl2
    have hl3 : FL (cst C2 r7 (6, n, sr f i ((q2 + 1 : Nat) : Int))) q2 v := hl2.st6 f1
    obtain ⟨gf, k1, k2, k3⟩ := id hl3
    obtain ⟨gf', k1', -⟩ := id hl2
    obtain ⟨-, -, -, ⟨⟨fB, b1, b2⟩, b3, -⟩, -⟩ := id hV3.1
    obtain ⟨gB, b4, b5⟩ := b3 i hi9
    have vB := hBr i g hi9 hg
    have bB := vB.bit
    simp only [f1, cup_of f1, cst_self, Int.toNat_natCast, sr_same, cellAt, codeOk, elK, k1, k2, k1', b1, b2 i hi9, b4, b5 g hg]
    generalize hC3 : cst C2 r7 (6, n, sr f i ((q2 + 1 : Nat) : Int)) = C3 at *
    have r7c : C3 r7 = (6, n, sr f i ((q2 + 1 : Nat) : Int)) := by rw [← hC3]; exact cst_self
    have zz : ∀ x : Nat, x ∉ ([] : List Nat) := fun x hx => by cases hx
    have hx' : ∀ k, k < i + 1 → (if k = i then v else x k) = ((X k : Int) : Rat) / ((D : Int) : Rat) := fun k hk => by
      by_cases z : k = i
      · rw [if_pos z, z]; exact ev
      · rw [if_neg z]; exact hx k (by omega)
    obtain ⟨u1, u2⟩ := id hBv
    have hdp := v.den_pos
    have hnn : X i ≤ D := hX.le hO hla hi9
    have l49 : L_W_isReached_49 (d + 130) Q M2 C3 (kc + 3 + 3) r r4 r5 (n : Int) b (g : Int) r7 r8 (i : Int) o10 o11 o12 o13 o14 o15 o16 o17 := by
      refine b_W_isReached_49 ?_
      simp only [r7c, Int.toNat_natCast, sr_same, cellAt, k1, k2, k3]
      refine ⟨⟨by decide, by decide⟩, ⟨by omega, by omega⟩, trivial, ⟨by decide, by decide⟩, trivial, ⟨by decide, by decide⟩, ⟨by omega, by omega⟩, ⟨by omega, by omega⟩, fun _ => ⟨by omega, ?_⟩, fun z => absurd (n2.mpr hnn) z⟩
      refine c_time q1 (a := (i : Int)) (b := (g : Int)) (y := 0) (z := 0) ⟨⟨by omega, by show (i : Int) < (n : Int); omega⟩, by omega, by show (g : Int) < (n : Int); omega⟩ hla ⟨by decide, by decide⟩ ⟨by decide, by decide⟩ _ ?_
      rintro v3 M3 C4 ⟨rfl, q3, hv3⟩
      have hsure := hX.sure hO hla hi9 hg
      rw [Int.toNat_natCast, Int.toNat_natCast] at hv3
      have hv3 : (¬ sure n A i g ∧ v3 = -1000004) ∨ (sure n A i g ∧ ∃ w, timV n b A i g w ∧ CF M3 w ∧ v3 = w.num.sign) := hv3
      simp only [r7c, Int.toNat_natCast, sr_same]
      refine ⟨⟨by decide, by decide⟩, ⟨by omega, by omega⟩, by omega, fun q4 hq4 => ?_⟩
      have hb : cst C4 q4 (2, 2, fun _ => 0) q4 = (2, 2, fun _ => 0) := cst_self
      simp only [cst_self, cup_of hb, cup_cst]
      refine ⟨trivial, ⟨by decide, by decide⟩, trivial, ⟨by decide, by decide⟩, by omega, ?_⟩
      have hl5 : LF [] C4 (cst (cst C4 q4 (2, 2, fun _ => 0)) q4 (2, 2, sr (sr (fun _ => 0) 0 1) 1 1)) := (LF.rf.new hq4).set hq4
      have hl9 := hl3.kept hl5 (zz _)
      refine s_isLike (d := d + 129) (y := 1) hl9 (FL.set rfl rfl) okv ⟨by unfold A63; decide, by decide⟩ _ ?_
      rintro v5 M5 C5 ⟨rfl, rfl, hv5⟩
      have hV5 := hV3.off hl5
      generalize cst (cst C4 q4 (2, 2, fun _ => 0)) q4 (2, 2, sr (sr (fun _ => 0) 0 1) 1 1) = C6 at *
      have next : ∀ (C7 : LMem) (K : Nat) (R2 : Nat → Nat) (t2 : Nat → Rat) (o10 o11 : Option PV), K ≤ kc + 20 → CRq C0 r r4 r5 r7 r8 n P T PB B (i + 1) (fun k => if k = i then q2 else R k) (fun k => if k = i then v else x k) (i + 1) (fun k => sure n A k g) R2 t2 C7 → (∀ k, k < i + 1 → sure n A k g → timV n b A k g (t2 k)) → L_W_isReached_13 (d + 130) Q M5 C7 K r r4 r5 (n : Int) b (g : Int) r7 r8 ((i : Int) + 1) o10 o11 o12 o13 o14 o15 o16 o17 := fun C7 K R2 t2 o10 o11 hK h1 h2 => ih (i + 1) M5 C7 K _ R2 _ t2 o10 o11 (by omega) (by omega) q3 h1 hx' h2
      rcases hv3 with ⟨hns, rfl⟩ | ⟨hsu, w, hw, hcw, rfl⟩
      · have e5 : v5 = 0 := by
          rcases hv5 with ⟨-, z⟩ | ⟨z, -⟩
          · exact absurd (hsure.mp (n3.mp z)) hns
          · exact z
        subst e5
        obtain ⟨f8, g1, g2⟩ := hV5.2.2.2
        refine ⟨⟨by decide, by decide⟩, fun _ => ⟨⟨by decide, by decide⟩, fun z => absurd rfl z, fun _ => ?_⟩, fun z => absurd (by decide) z⟩
        refine b_W_isReached_94 ⟨⟨by decide, by decide⟩, fun z => absurd rfl z, fun _ => ⟨⟨by decide, by decide⟩, fun _ => ?_, fun z => absurd rfl z⟩⟩
        refine b_W_isReached_101 ⟨⟨by decide, by decide⟩, fun _ => ?_, fun z => absurd rfl z⟩
        simp only [g1, cup_of g1, Int.toNat_natCast]
        refine ⟨⟨by decide, by decide⟩, ⟨by omega, by omega⟩, fun _ => ?_, fun z => absurd trivial z⟩
        refine next _ _ R' t _ _ (by omega) (hV5.setn g1 hns) (fun k hk hs => ?_)
        by_cases z : k = i
        · rw [z] at hs; exact absurd hs hns
        · exact ht k (by omega) hs
      · have e5 : v5 = 1 := by
          rcases hv5 with ⟨z, -⟩ | ⟨-, z⟩
          · exact z
          · exact absurd (n3.mpr (hsure.mpr hsu)) z
        subst e5
        have hsg := sign_r w.num
        refine ⟨⟨by omega, by omega⟩, fun z => absurd z (by omega), fun _ => ⟨⟨by decide, by decide⟩, fun z => absurd rfl z, fun _ => ?_⟩⟩
        refine b_W_isReached_94 ⟨⟨by decide, by decide⟩, fun _ => ?_, fun z => absurd (by decide) z⟩
        have okw : ok63 w := (tim_ok hO hla hn.2 hb4.2 hg hi9 hsu hw).ok (by decide) (by decide)
        refine b_W_isReached_101 ⟨⟨by decide, by decide⟩, fun z => absurd z (by decide), fun _ => ⟨by omega, ?_⟩⟩
        refine s_came (d := d + 1) hcw okw _ ?_
        rintro v6 M6 C6' ⟨rfl, q6, rfl, hq6, hf6, hl6⟩
        have hV6 := hV5.off hf6
        obtain ⟨f8, g1, g2⟩ := hV6.2.2.2
        obtain ⟨g6, y1, -⟩ := id hl6
        simp only [g1, cup_of g1, Int.toNat_natCast, codeOk, elK, y1, cst_self, sr_same]
        refine ⟨⟨by decide, by decide⟩, ⟨by omega, by omega⟩, trivial, fun z => absurd z (by decide), fun _ => ⟨⟨by decide, by decide⟩, ⟨by omega, by omega⟩, fun _ => ?_, fun z => absurd z (Nat.succ_ne_zero q6)⟩⟩
        refine next _ _ _ _ _ _ (by omega) (hV6.sett g1 hl6 hsu) (fun k hk hs => ?_)
        show timV n b A k g (if k = i then w else t k)
        by_cases z : k = i
        · rw [if_pos z, z]; exact hw
        · rw [if_neg z]; exact ht k (by omega) hs
    refine ⟨⟨by decide, by decide⟩, ⟨by omega, by omega⟩, trivial, ⟨by decide, by decide⟩, ⟨by omega, by omega⟩, fun z => absurd z (Nat.succ_ne_zero q2), fun _ => ⟨trivial, ⟨by decide, by decide⟩, ⟨by omega, by omega⟩, fun z => ⟨⟨by decide, by decide⟩, ⟨by omega, by omega⟩, trivial, ⟨by omega, by omega⟩, ⟨by omega, by omega⟩, fun z2 => ?_, fun _ => l49⟩, fun z => ⟨⟨by decide, by decide⟩, ⟨by omega, by omega⟩, trivial, ⟨by omega, by omega⟩, ⟨by omega, by omega⟩, fun z2 => ?_, fun _ => l49⟩⟩⟩
    · have hr := vB.yes.mp (fun w => z2 w.symm)
      have := hX.pos hO hla hi9 hr
      have := n1.mp z
      omega
    · have hr : ¬ Rch (cEE n A) i g := fun w => by
        rcases vB with ⟨w1, -⟩ | ⟨-, w2⟩
        · exact z2 w1.symm
        · exact w2 w
      have := hX.2.2.2.2 i hi9 hr
      exact absurd (n1.mpr (by omega)) z
end RC3
