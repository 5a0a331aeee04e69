/-! isEnvelope: the servers, the bound. -/
theorem cross_x {x : Rat} {A D : Int} (hD : 0 < D) (hx : x = (A : Rat) / (D : Rat)) : x.num * D = A * x.den := by
  obtain ⟨e1, e2⟩ := R_def (a := A) (b := D) hD
  rw [hx]
  have h1 : ((A : Rat) / (D : Rat)).num * (Int.gcd A D : Int) = A := by rw [e1]; exact Int.tdiv_mul_cancel (Int.gcd_dvd_left _ _)
  have h2 : (((A : Rat) / (D : Rat)).den : Int) * (Int.gcd A D : Int) = D := by rw [e2]; exact Int.tdiv_mul_cancel (Int.gcd_dvd_right _ _)
  generalize ((A : Rat) / (D : Rat)).num = N at *
  generalize (((A : Rat) / (D : Rat)).den : Int) = E at *
  generalize (Int.gcd A D : Int) = G at *
  rw [← h1, ← h2]
  grind
theorem cmp_x {x : Rat} {A D c v : Int} (hD : 0 < D) (hx : x = (A : Rat) / (D : Rat)) : (x.num * c ≤ v * x.den ↔ A * c ≤ v * D) ∧ (v * x.den ≤ x.num * c ↔ v * D ≤ A * c) := by
  have h := cross_x hD hx
  have hd : 0 < (x.den : Int) := by have := x.den_pos; omega
  generalize x.num = N at *
  generalize (x.den : Int) = E at *
  have e1 : (N * c) * D = (A * c) * E := by grind
  have e2 : (v * E) * D = (v * D) * E := by grind
  refine ⟨⟨fun z => ?_, fun z => ?_⟩, ⟨fun z => ?_, fun z => ?_⟩⟩
  · have := Int.mul_le_mul_of_nonneg_right z (Int.le_of_lt hD)
    rw [e1, e2] at this
    exact Int.le_of_mul_le_mul_right this hd
  · have := Int.mul_le_mul_of_nonneg_right z (Int.le_of_lt hd)
    rw [← e1, ← e2] at this
    exact Int.le_of_mul_le_mul_right this hD
  · have := Int.mul_le_mul_of_nonneg_right z (Int.le_of_lt hD)
    rw [e1, e2] at this
    exact Int.le_of_mul_le_mul_right this hd
  · have := Int.mul_le_mul_of_nonneg_right z (Int.le_of_lt hd)
    rw [← e1, ← e2] at this
    exact Int.le_of_mul_le_mul_right this hD
def bestOf (A D : Int) (m : Nat) (B P : Nat → Int) : Prop := (m = 0 ∧ A = 1000 ∧ D = 1) ∨ (0 < m ∧ A = B (eBest B P m) ∧ D = P (eBest B P m))
theorem best_s {m : Nat} {A D v w : Int} {B P : Nat → Int} (h : bestOf A D m B P) (hv : 1 ≤ v ∧ v ≤ 9) (hw : 1 ≤ w ∧ w ≤ 9) : if A * w ≤ v * D then bestOf A D (m + 1) (sr B m v) (sr P m w) else bestOf v w (m + 1) (sr B m v) (sr P m w) := by
  have hc : eBest (sr B m v) (sr P m w) m = eBest B P m := eBest_congr m fun i hi => ⟨sr_ne (by omega), sr_ne (by omega)⟩
  have e : eBest (sr B m v) (sr P m w) (m + 1) = if sr B m v (eBest B P m) * w ≤ v * sr P m w (eBest B P m) then eBest B P m else m := by
    show (if sr B m v (eBest (sr B m v) (sr P m w) m) * sr P m w m ≤ sr B m v m * sr P m w (eBest (sr B m v) (sr P m w) m) then eBest (sr B m v) (sr P m w) m else m) = _
    rw [hc, sr_same, sr_same]
  rcases h with ⟨rfl, rfl, rfl⟩ | ⟨h0, h1, h2⟩
  · rw [if_neg (by omega)]
    have e0 : eBest B P 0 = 0 := rfl
    rw [e0, sr_same, sr_same, if_pos (Int.le_refl _)] at e
    exact Or.inr ⟨Nat.lt_succ_self _, by rw [e, sr_same], by rw [e, sr_same]⟩
  · have hlt := eBest_lt (B := B) (P := P) m h0
    rw [sr_ne (by omega), sr_ne (by omega), ← h1, ← h2] at e
    by_cases z : A * w ≤ v * D
    · rw [if_pos z] at e ⊢
      exact Or.inr ⟨Nat.succ_pos m, by rw [e, sr_ne (by omega)]; exact h1, by rw [e, sr_ne (by omega)]; exact h2⟩
    · rw [if_neg z] at e ⊢
      exact Or.inr ⟨Nat.succ_pos m, by rw [e, sr_same], by rw [e, sr_same]⟩
theorem eb0_eq {b a p A D : Int} {m : Nat} {L B P : Nat → Int} (hA : 0 < A) (hD : 0 < D) (h1 : A = B (eBest B P m)) (h2 : D = P (eBest B P m)) : eBound 0 b a p m L B P = ((eSum L m : Int) : Rat) / ((1 : Int) : Rat) + (((b : Int) : Rat) / ((1 : Int) : Rat)) / ((A : Rat) / (D : Rat)) := by
  unfold eBound
  rw [if_pos rfl, ← h1, ← h2, Rat.mkRat_eq_div]
  have h9 : ((A.toNat : Nat) : Rat) = (A : Rat) := by rw [← Rat.intCast_natCast, Int.toNat_of_nonneg (by omega)]
  rw [h9, Rat.intCast_add, Rat.intCast_mul, Rat.intCast_mul]
  have ha : (A : Rat) ≠ 0 := fun z => by have := Rat.intCast_eq_zero_iff.mp z; omega
  have hd : (D : Rat) ≠ 0 := fun z => by have := Rat.intCast_eq_zero_iff.mp z; omega
  have h11 : ((1 : Int) : Rat) = 1 := rfl
  rw [h11]
  generalize (A : Rat) = x at *
  generalize (D : Rat) = y at *
  generalize ((eSum L m : Int) : Rat) = u at *
  generalize (b : Rat) = w at *
  grind
theorem eb1_eq {b a p : Int} {m : Nat} {L B P : Nat → Int} (hp : 0 < p) : eBound 1 b a p m L B P = ((b : Int) : Rat) / ((1 : Int) : Rat) + ((a : Rat) / (p : Rat)) * (((eSum L m : Int) : Rat) / ((1 : Int) : Rat)) := by
  unfold eBound
  rw [if_neg (by decide), Rat.mkRat_eq_div]
  have h9 : ((p.toNat : Nat) : Rat) = (p : Rat) := by rw [← Rat.intCast_natCast, Int.toNat_of_nonneg (by omega)]
  rw [h9, Rat.intCast_add, Rat.intCast_mul, Rat.intCast_mul]
  have ha : (p : Rat) ≠ 0 := fun z => by have := Rat.intCast_eq_zero_iff.mp z; omega
  have h11 : ((1 : Int) : Rat) = 1 := rfl
  rw [h11]
  generalize (p : Rat) = x at *
  generalize (a : Rat) = y at *
  generalize ((eSum L m : Int) : Rat) = u at *
  generalize (b : Rat) = w at *
  grind
section IE3
variable {d : Nat} {Q : LQ} {C0 : LMem} {j : StJ} {l : StL} {c : StC} {n : StN} {g : StG} {h : StH} {t : StT} {r : Nat} {b a p : Int} {o2 o3 o7 : Option PV}
set_option maxHeartbeats 4000000 in
theorem ie_end (hQ : ∀ (M : Mem) (C : LMem) (e : StE), IQ j l c n e g h t M → LF [r] C0 C → (∃ f, C r = (1, 1, f)) → Q 1 M C) {m : Nat} (hm : 1 ≤ m ∧ m ≤ 4) {M : Mem} {C : LMem} {kc : Nat} {L B P : Nat → Int} {q : Nat} {A D : Int} {o13 o14 o15 : Option PV} (hkc : kc ≤ 500) (hq : IQ j l c n (b, a, p, m, L, B, P) g h t M) (hf : LF [r] C0 C) (hr : ∃ f, C r = (1, 1, f)) (hx : FL C q ((A : Rat) / (D : Rat))) (hb : bestOf A D m B P) : L_W_isEnvelope_201 (d + 130) Q M C kc r o2 o3 b a p o7 (m : Int) (eSum L m) (q + 1) (m : Int) o13 o14 o15 := by
  obtain ⟨p1, p2, p3, p4, p5⟩ := hq.ev.1
  have p1 : 0 ≤ b ∧ b ≤ 999 := p1
  have p2 : 0 ≤ a ∧ a ≤ 99 := p2
  have p3 : 1 ≤ p ∧ p ≤ 99 := p3
  rcases hb with ⟨z, -⟩ | ⟨hb0, hA, hD⟩
  · omega
  have hbl := eBest_lt (B := B) (P := P) m hb0
  have hbb := p5 _ hbl
  have hA9 : 1 ≤ A ∧ A ≤ 99 := by rw [hA]; exact hbb.2.1
  have hD9 : 1 ≤ D ∧ D ≤ 99 := by rw [hD]; exact hbb.2.2
  have hS := eSum_r (L := L) m fun i hi => (p5 i hi).1
  have hB := Bq_div (a := A) (b := D) (by omega)
  obtain ⟨fq, hq1, hq2, hq3⟩ := id hx
  have hcm := cmp_x (c := p) (v := a) (show 0 < D by omega) (rfl : (A : Rat) / (D : Rat) = (A : Rat) / (D : Rat))
  have hbd : eBd a p m B P ↔ a * D ≤ A * p := by
    unfold eBd
    rw [← hA, ← hD]
    exact ⟨fun z => z.2, fun z => ⟨hb0, z⟩⟩
  have hb9 := hB
  obtain ⟨u1, u2⟩ := hb9
  have hnn : 0 < ((A : Rat) / (D : Rat)).den := Rat.den_pos _
  have s1 := prod_a (x := a) (k := 99) (y := (((A : Rat) / (D : Rat)).den : Int)) (l := 99) ⟨by omega, by omega⟩ ⟨by omega, by omega⟩ (by decide)
  have s2 := prod_a (x := ((A : Rat) / (D : Rat)).num) (k := 99) (y := p) (l := 99) ⟨by omega, by omega⟩ ⟨by omega, by omega⟩ (by decide)
  refine b_W_isEnvelope_201 ?_
  simp only [cellAt, hq1, hq2, hq3]
  refine ⟨⟨by omega, by omega⟩, ⟨by omega, by omega⟩, fun _ => ⟨⟨by omega, by omega⟩, trivial, ⟨by omega, by omega⟩, trivial, ⟨by omega, by omega⟩, ⟨by omega, by omega⟩, ⟨by omega, by omega⟩, ⟨by omega, by omega⟩, fun z => ⟨by omega, ?_⟩, fun z => ⟨by omega, ?_⟩⟩, fun z => absurd (by omega) z⟩
  · have hgood := hbd.mpr (hcm.2.mp z)
    have hx0 : (A : Rat) / (D : Rat) ≠ 0 := fun w => by
      have h1 := cross_x (show 0 < D by omega) (rfl : (A : Rat) / (D : Rat) = (A : Rat) / (D : Rat))
      rw [w] at h1
      have h2 : (0 : Rat).num = 0 := rfl
      have h3 : (0 : Rat).den = 1 := rfl
      rw [h2, h3] at h1
      omega
    refine c_bound hq (a := 0) (x := 0) (y := 0) (z := 0) ⟨by decide, by decide⟩ ⟨by decide, by decide⟩ ⟨by decide, by decide⟩ ⟨by decide, by decide⟩ _ ?_
    rintro v3 M3 C3 ⟨rfl, hq3', ⟨w, -⟩ | ⟨-, hcf, hv3⟩⟩
    · exact absurd hgood w
    have i0 : (if (0 : Int) = 1 then (1 : Int) else 0) = 0 := rfl
    rw [i0] at hcf hv3
    have hcf : CF M3 (eBound 0 b a p m L B P) := hcf
    have hv3 : v3 = (eBound 0 b a p m L B P).num.sign := hv3
    refine ⟨by omega, ?_⟩
    refine s_of (d := d + 2) (by unfold A63; omega) (by unfold A63; decide) (by decide) _ ?_
    rintro v4 M4 C4 ⟨rfl, q4, rfl, n4, f4, l4⟩
    refine ⟨⟨by omega, by omega⟩, by omega, ?_⟩
    refine s_of (d := d + 2) (by unfold A63; omega) (by unfold A63; decide) (by decide) _ ?_
    rintro v5 M5 C5 ⟨rfl, q5, rfl, n5, f5, l5⟩
    have zz : ∀ x : Nat, x ∉ ([] : List Nat) := fun x hx => by cases hx
    have B5 : Bq (((b : Int) : Rat) / ((1 : Int) : Rat)) 999 1 := (Bq_div (by decide)).mono (by omega) (by decide)
    have BX : Bq ((A : Rat) / (D : Rat)) 99 99 := hB.mono (by omega) (by omega)
    have B4 : Bq (((eSum L m : Int) : Rat) / ((1 : Int) : Rat)) 396 1 := (Bq_div (by decide)).mono (by omega) (by decide)
    refine ⟨by omega, ?_⟩
    simp only [Int.toNat_natCast]
    refine s_by (d := d + 1) l5 ((hx.kept f4 (zz _)).kept f5 (zz _)) (B5.okD BX (by decide) (by decide) hx0) _ ?_
    rintro v6 M6 C6 ⟨rfl, q6, rfl, n6, f6, l6⟩
    refine ⟨by omega, ?_⟩
    simp only [Int.toNat_natCast]
    have B6 := B5.div BX hx0
    refine s_sum (d := d + 1) ((l4.kept f5 (zz _)).kept f6 (zz _)) l6 (B4.okS B6 (by decide) (by decide)) _ ?_
    rintro v7 M7 C7 ⟨rfl, q7, rfl, n7, f7, l7⟩
    have eq0 := eb0_eq (b := b) (a := a) (p := p) (L := L) (show 0 < A by omega) (show 0 < D by omega) hA hD
    rw [← eq0] at l7
    have B7 := B4.add B6
    rw [← eq0] at B7
    refine ⟨by omega, ?_⟩
    rw [Int.toNat_natCast, hv3]
    refine s_isCame (d := d) hcf (B7.ok (by decide) (by decide)) l7 _ ?_
    rintro v8 M8 C8 ⟨rfl, rfl, f8⟩
    refine ⟨⟨by decide, by decide⟩, fun z => absurd z (by decide), fun _ => ⟨by omega, ?_⟩⟩
    refine c_bound hq3' (a := 1) (x := 0) (y := 0) (z := 0) ⟨by decide, by decide⟩ ⟨by decide, by decide⟩ ⟨by decide, by decide⟩ ⟨by decide, by decide⟩ _ ?_
    rintro v9 M9 C9 ⟨rfl, hq9, ⟨w, -⟩ | ⟨-, hcf, hv9⟩⟩
    · exact absurd hgood w
    have i1 : (if (1 : Int) = 1 then (1 : Int) else 0) = 1 := rfl
    rw [i1] at hcf hv9
    have hcf : CF M9 (eBound 1 b a p m L B P) := hcf
    have hv9 : v9 = (eBound 1 b a p m L B P).num.sign := hv9
    refine ⟨by omega, ?_⟩
    refine s_of (d := d + 2) (by unfold A63; omega) (by unfold A63; decide) (by decide) _ ?_
    rintro v10 M10 C10 ⟨rfl, q10, rfl, n10, f10, l10⟩
    refine ⟨by omega, ?_⟩
    refine s_of (d := d + 2) (by unfold A63; omega) (by unfold A63; omega) (by omega) _ ?_
    rintro v11 M11 C11 ⟨rfl, q11, rfl, n11, f11, l11⟩
    refine ⟨by omega, ?_⟩
    refine s_of (d := d + 2) (by unfold A63; omega) (by unfold A63; decide) (by decide) _ ?_
    rintro v12 M12 C12 ⟨rfl, q12, rfl, n12, f12, l12⟩
    have B11 : Bq (((a : Int) : Rat) / ((p : Int) : Rat)) 99 99 := (Bq_div (by omega)).mono (by omega) (by omega)
    refine ⟨by omega, ?_⟩
    simp only [Int.toNat_natCast]
    refine s_times (d := d + 1) (l11.kept f12 (zz _)) l12 (B11.okT B4 (by decide) (by decide)) _ ?_
    rintro v13 M13 C13 ⟨rfl, q13, rfl, n13, f13, l13⟩
    refine ⟨by omega, ?_⟩
    simp only [Int.toNat_natCast]
    have B13 := B11.mul B4
    refine s_sum (d := d + 1) (((l10.kept f11 (zz _)).kept f12 (zz _)).kept f13 (zz _)) l13 (B5.okS B13 (by decide) (by decide)) _ ?_
    rintro v14 M14 C14 ⟨rfl, q14, rfl, n14, f14, l14⟩
    have eq1 := eb1_eq (b := b) (a := a) (p := p) (m := m) (L := L) (B := B) (P := P) (show 0 < p by omega)
    rw [← eq1] at l14
    have B14 := B5.add B13
    rw [← eq1] at B14
    refine ⟨by omega, ?_⟩
    rw [Int.toNat_natCast, hv9]
    refine s_isCame (d := d) hcf (B14.ok (by decide) (by decide)) l14 _ ?_
    rintro v15 M15 C15 ⟨rfl, rfl, f15⟩
    have hall : LF [] _ C15 := ((((((((((f4.tr f5).tr f6).tr f7).tr f8).tr f10).tr f11).tr f12).tr f13).tr f14)).tr f15
    obtain ⟨f, hr⟩ := hr
    refine ⟨⟨by decide, by decide⟩, fun z => absurd z (by decide), fun _ => hQ M15 C15 _ hq9 (hf.tr hall.nil) ⟨f, hall.at' (k := 0) (zz _) hr⟩⟩
  · have hbad : ¬ eBd a p m B P := fun w => z (hcm.2.mpr (hbd.mp w))
    refine c_bound hq (a := 0) (x := 0) (y := 0) (z := 0) ⟨by decide, by decide⟩ ⟨by decide, by decide⟩ ⟨by decide, by decide⟩ ⟨by decide, by decide⟩ _ ?_
    rintro v3 M3 C3 ⟨rfl, hq3', ⟨-, rfl⟩ | ⟨w, -⟩⟩
    · refine ⟨⟨by decide, by decide⟩, fun w => absurd rfl w, fun _ => ⟨by omega, ?_⟩⟩
      refine c_bound hq3' (a := 1) (x := 0) (y := 0) (z := 0) ⟨by decide, by decide⟩ ⟨by decide, by decide⟩ ⟨by decide, by decide⟩ ⟨by decide, by decide⟩ _ ?_
      rintro v4 M4 C4 ⟨rfl, hq4', ⟨-, rfl⟩ | ⟨w, -⟩⟩
      · exact ⟨⟨by decide, by decide⟩, fun w => absurd rfl w, fun _ => hQ M4 C4 _ hq4' hf hr⟩
      · exact absurd w hbad
    · exact absurd w hbad
end IE3
