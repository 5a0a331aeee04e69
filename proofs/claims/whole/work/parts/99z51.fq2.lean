/-! The reference's fractions: sums, quotients. -/
theorem adds_end {d : Nat} {Q : Rs → Mem → Prop} {M0 M : Mem} {c D y : Nat} {s n : Int} {o1 o2 o3 o5 o6 : Option PV} (hc : c < 95) (hf : RS [190, 191, 192, 193] [c] M0 M) (hD : Row M 193 (D : Int)) (hC : Row M 192 (y : Int)) (hy : 0 < y) (hsg : M 165 c = s) (hs : s = -1 ∨ s = 0 ∨ s = 1) (h0 : s = 0 → D = 0) (hn : s * D = n)
    (hQ : ∀ M', FR [c] M0 M' → FQ M' c (mkRat n y) → Q (.inl 0) M') : L_M_adds_95 (d + 4) Q M o1 o2 o3 (c : Int) o5 o6 := by
  refine b_M_adds_95 ?_
  rw [show 2 * (c : Int) = ((2 * c : Nat) : Int) by omega, show ((2 * c : Nat) : Int) + 1 = ((2 * c + 1 : Nat) : Int) by omega]
  refine (s_copyRow (d := d + 3) (a := 193) (b := 2 * c) (by decide) (by omega) (by omega) hD).cal fun v1 M1 hM1 => ?_
  obtain ⟨f1, a1⟩ := hM1
  refine (s_copyRow (d := d + 3) (a := 192) (b := 2 * c + 1) (by decide) (by omega) (by omega) (hC.kept f1 (by simp; omega))).cal fun v2 M2 hM2 => ?_
  obtain ⟨f2, a2⟩ := hM2
  refine (s_reducesQ (d := d) (s := s) hc (a1.kept f2 (by simp)) a2 hy (by rw [f2.sg, f1.sg]; exact hsg) hs h0 hn).cal fun v3 M3 hM3 => ?_
  obtain ⟨f3, a3⟩ := hM3
  refine hQ M3 ((((hf.fr ?_ ?_).tr (f1.fr ?_)).tr (f2.fr ?_)).tr f3) a3
  all_goals simp
  omega
theorem adds_54 {d : Nat} {Q : Rs → Mem → Prop} {M0 M : Mem} {c A B y : Nat} {one two n : Int} {o1 o2 o3 : Option PV} (hc : c < 95) (hf : RS [190, 191, 192] [c] M0 M) (hA : Row M 190 (A : Int)) (hB : Row M 191 (B : Int)) (hC : Row M 192 (y : Int)) (hy : 0 < y)
    (hfA : (A : Int) < 10000 ^ 299) (hfB : (B : Int) < 10000 ^ 299) (h1 : one = -1 ∨ one = 0 ∨ one = 1) (h2 : two = -1 ∨ two = 0 ∨ two = 1) (z1 : one = 0 → A = 0) (z2 : two = 0 → B = 0) (hn : one * A + two * B = n) (hcs : one = two ∨ one = 0 ∨ two = 0)
    (hQ : ∀ M', FR [c] M0 M' → FQ M' c (mkRat n y) → Q (.inl 0) M') : L_M_adds_54 (d + 4) Q M o1 o2 o3 (c : Int) one two := by
  refine b_M_adds_54 ?_
  refine (s_addRows (d := d + 2) (r1 := 190) (r2 := 191) (r3 := 193) (by decide) (by decide) (by decide) hA hB hfA hfB).cal fun v1 M1 hM1 => ?_
  obtain ⟨f1, a1⟩ := hM1
  rw [show (A : Int) + (B : Int) = ((A + B : Nat) : Int) by omega] at a1
  rw [Int.toNat_natCast]
  have fS : ∀ s, RS [190, 191, 192, 193] [c] M0 (upd2 M1 165 c s) := fun s => ((hf.mono (by simp) (by simp)).tr ((RF.rs (ls := []) f1).mono (by simp) (by simp))).tr (RS.sign (by simp))
  have kS : ∀ s, RS [] [c] M1 (upd2 M1 165 c s) := fun s => RS.sign (by simp)
  have hC1 := hC.kept f1 (by decide)
  refine ⟨⟨by omega, by omega⟩, fun h => ⟨⟨by omega, by omega⟩, ?_⟩, fun h => ⟨⟨by omega, by omega⟩, ?_⟩⟩
  · refine adds_end (s := one) hc (fS one) (a1.keptS (kS one) (by simp)) (hC1.keptS (kS one) (by simp)) hy u2_same h1 (fun e => absurd e h) ?_ hQ
    rw [← hn]
    rcases hcs with e | e | e
    · subst e; rw [Int.natCast_add, Int.mul_add]
    · exact absurd e h
    · rw [e, z2 e]; simp
  · have e : one = 0 := Classical.not_not.mp h
    have eA := z1 e
    refine adds_end (s := two) hc (fS two) (a1.keptS (kS two) (by simp)) (hC1.keptS (kS two) (by simp)) hy u2_same h2 (fun e2 => by have := z2 e2; omega) ?_ hQ
    rw [← hn, e, eA]
    simp
theorem s_addsG {d : Nat} {M : Mem} {a b c : Nat} {t : Int} {p q : Rat} {ka kb : Nat} (ha : a < 95) (hb : b < 95) (hc : c < 95) (ht : t = 1 ∨ t = -1) (hp : FQ M a p) (hq : FQ M b q) (bp : Bd p ka) (bq : Bd q kb) (hk : ka + kb ≤ 299) :
    Post (d + 5) cM_adds [oM, .inl (a : Int), .inl (b : Int), .inl t, .inl (c : Int)] M (fun _ M' => FR [c] M M' ∧ FQ M' c (mkRat (p.num * q.den + t * q.num * p.den) (p.den * q.den))) := by
  intro Q hQ
  have sp := hp.sg
  have sq := hq.sg
  obtain ⟨p1, p2, p3⟩ := hp
  obtain ⟨q1, q2, q3⟩ := hq
  refine e_M_adds (b_M_adds_0 ?_)
  rw [Int.toNat_natCast, Int.toNat_natCast, show 2 * (a : Int) = ((2 * a : Nat) : Int) by omega, show ((2 * a : Nat) : Int) + 1 = ((2 * a + 1 : Nat) : Int) by omega, show 2 * (b : Int) = ((2 * b : Nat) : Int) by omega, show ((2 * b : Nat) : Int) + 1 = ((2 * b + 1 : Nat) : Int) by omega]
  refine (s_multiplyRows (d := d + 2) (r1 := 2 * a) (r2 := 2 * b + 1) (r3 := 190) (by omega) (by omega) (by decide) (by omega) (by omega) p1 q2 bp.1 bq.2 (by omega)).cal fun v1 M1 hM1 => ?_
  obtain ⟨f1, a1⟩ := hM1
  refine (s_multiplyRows (d := d + 2) (r1 := 2 * b) (r2 := 2 * a + 1) (r3 := 191) (by omega) (by omega) (by decide) (by omega) (by omega) (q1.kept f1 (by simp; omega)) (p2.kept f1 (by simp; omega)) bq.1 bp.2 (by omega)).cal fun v2 M2 hM2 => ?_
  obtain ⟨f2, a2⟩ := hM2
  refine (s_multiplyRows (d := d + 2) (r1 := 2 * a + 1) (r2 := 2 * b + 1) (r3 := 192) (by omega) (by omega) (by decide) (by omega) (by omega) ((p2.kept f1 (by simp; omega)).kept f2 (by simp; omega)) ((q2.kept f1 (by simp; omega)).kept f2 (by simp; omega)) bp.2 bq.2 (by omega)).cal fun v3 M3 hM3 => ?_
  obtain ⟨f3, a3⟩ := hM3
  have hA := (a1.kept f2 (by decide)).kept f3 (by decide)
  have hB := a2.kept f3 (by decide)
  have lA : ((p.num.natAbs * q.den : Nat) : Int) < 10000 ^ 299 := by
    rw [Int.natCast_mul]
    exact Int.lt_of_lt_of_le (fits_mul (by omega) bp.1 bq.2) (pw_mono (by decide) hk)
  have lB : ((q.num.natAbs * p.den : Nat) : Int) < 10000 ^ 299 := by
    rw [Int.natCast_mul]
    exact Int.lt_of_lt_of_le (fits_mul (by omega) bq.1 bp.2) (pw_mono (by decide) (by omega))
  rw [← Int.natCast_mul] at hA hB a3
  have e1 : M3 165 a = p.num.sign := by rw [f3.sg, f2.sg, f1.sg]; exact p3
  have e2 : M3 165 b = q.num.sign := by rw [f3.sg, f2.sg, f1.sg]; exact q3
  rw [p3] at sp
  rw [q3] at sq
  rw [e1, e2]
  have z1 : p.num.sign = 0 → p.num.natAbs * q.den = 0 := fun e => by rw [Int.sign_eq_zero_iff_zero.mp e]; simp
  have z2 : q.num.sign * t = 0 → q.num.natAbs * p.den = 0 := fun e => by
    have : q.num.sign = 0 := by rcases ht with rfl | rfl <;> omega
    rw [Int.sign_eq_zero_iff_zero.mp this]; simp
  have hn : p.num.sign * ((p.num.natAbs * q.den : Nat) : Int) + q.num.sign * t * ((q.num.natAbs * p.den : Nat) : Int) = p.num * q.den + t * q.num * p.den := by
    have h1 := sign_natAbs p.num
    have h2 := sign_natAbs q.num
    rw [Int.natCast_mul, Int.natCast_mul, ← Int.mul_assoc, h1, Int.mul_comm q.num.sign t, ← Int.mul_assoc, Int.mul_assoc t, h2]
  have h2' : q.num.sign * t = -1 ∨ q.num.sign * t = 0 ∨ q.num.sign * t = 1 := by rcases ht with rfl | rfl <;> omega
  have F3 : RS [190, 191, 192] [c] M M3 := (RF.rs (ls := []) ((f1.mono (by simp)).tr ((f2.mono (by simp)).tr (f3.mono (by simp))))).mono (fun _ h => h) (by simp)
  have hy : 0 < p.den * q.den := Nat.mul_pos p.den_pos q.den_pos
  generalize q.num.sign * t = two at *
  generalize p.num.sign = one at *
  have hQ' : ∀ M', FR [c] M M' → FQ M' c (mkRat (p.num * q.den + t * q.num * p.den) (p.den * q.den)) → Q (.inl 0) M' := fun M' k1 k2 => hQ 0 M' ⟨k1, k2⟩
  generalize p.num * q.den + t * q.num * p.den = n at *
  generalize p.num.natAbs * q.den = A at *
  generalize q.num.natAbs * p.den = B at *
  generalize p.den * q.den = y at *
  have L : ∀ (o1 o2 o3 : Option PV), (one = two ∨ one = 0 ∨ two = 0) → L_M_adds_54 (d + 4) Q M3 o1 o2 o3 (c : Int) one two := fun o1 o2 o3 hcs => adds_54 hc F3 hA hB a3 hy lA lB sp h2' z1 z2 hn hcs hQ'
  refine ⟨⟨by omega, by omega⟩, ⟨by omega, by omega⟩, ⟨by omega, by omega⟩, ⟨by omega, by omega⟩, fun h => L _ _ _ (Or.inl h), fun h => ⟨fun h2 => L _ _ _ (Or.inr (Or.inl h2)), fun h2 => ⟨fun h3 => ?_, fun h3 => L _ _ _ (Or.inr (Or.inr (Classical.not_not.mp h3)))⟩⟩⟩
  refine (s_compareRows (d := d + 3) (a := 190) (b := 191) (by decide) (by decide) hA hB).cal fun v4 M4 hM4 => ?_
  obtain ⟨rfl, hv⟩ := hM4
  rw [Int.toNat_natCast]
  have fS : ∀ {M5 : Mem} (s : Int), RF [193] M4 M5 → RS [190, 191, 192, 193] [c] M (upd2 M5 165 c s) := fun s f5 => ((F3.mono (by simp) (by simp)).tr ((RF.rs (ls := []) f5).mono (by simp) (by simp))).tr (RS.sign (by simp))
  have kS : ∀ (M5 : Mem) (s : Int), RS [] [c] M5 (upd2 M5 165 c s) := fun M5 s => RS.sign (by simp)
  refine ⟨?_, fun h4 => ?_, fun h4 => ?_⟩
  · rw [hv]
    by_cases e : (A : Int) < (B : Int)
    · rw [if_pos e]; exact ⟨by decide, by decide⟩
    · rw [if_neg e]
      by_cases e : (A : Int) = (B : Int)
      · rw [if_pos e]; exact ⟨by decide, by decide⟩
      · rw [if_neg e]; exact ⟨by decide, by decide⟩
  · have hlt : (A : Int) < (B : Int) := by
      by_cases e : (A : Int) < (B : Int)
      · exact e
      · rw [if_neg e] at hv
        by_cases e : (A : Int) = (B : Int)
        · rw [if_pos e] at hv; omega
        · rw [if_neg e] at hv; omega
    refine (s_subtractRows (d := d + 2) (r1 := 191) (r2 := 190) (r3 := 193) (by decide) (by decide) (by decide) hB hA (by omega)).cal fun v5 M5 hM5 => ?_
    obtain ⟨f5, a5⟩ := hM5
    rw [show (B : Int) - (A : Int) = ((B - A : Nat) : Int) by omega] at a5
    refine ⟨⟨by omega, by omega⟩, adds_end (s := two) hc (fS two f5) (a5.keptS (kS M5 two) (by simp)) ((a3.kept f5 (by decide)).keptS (kS M5 two) (by simp)) hy u2_same h2' (fun e => absurd e h3) ?_ hQ'⟩
    have ho : one = -two := by omega
    rw [← hn, ho, show ((B - A : Nat) : Int) = (B : Int) - (A : Int) by omega, Int.mul_sub, Int.neg_mul]
    omega
  · have hle : (B : Int) ≤ (A : Int) := by
      by_cases e : (A : Int) < (B : Int)
      · rw [if_pos e] at hv; omega
      · omega
    refine (s_subtractRows (d := d + 2) (r1 := 190) (r2 := 191) (r3 := 193) (by decide) (by decide) (by decide) hA hB hle).cal fun v5 M5 hM5 => ?_
    obtain ⟨f5, a5⟩ := hM5
    rw [show (A : Int) - (B : Int) = ((A - B : Nat) : Int) by omega] at a5
    refine ⟨⟨by omega, by omega⟩, adds_end (s := one) hc (fS one f5) (a5.keptS (kS M5 one) (by simp)) ((a3.kept f5 (by decide)).keptS (kS M5 one) (by simp)) hy u2_same sp (fun e => absurd e h2) ?_ hQ'⟩
    have ho : two = -one := by omega
    rw [← hn, ho, show ((A - B : Nat) : Int) = (A : Int) - (B : Int) by omega, Int.mul_sub, Int.neg_mul]
    omega
theorem s_adds {d : Nat} {M : Mem} {a b c : Nat} {p q : Rat} {ka kb : Nat} (ha : a < 95) (hb : b < 95) (hc : c < 95) (hp : FQ M a p) (hq : FQ M b q) (bp : Bd p ka) (bq : Bd q kb) (hk : ka + kb ≤ 299) :
    Post (d + 5) cM_adds [oM, .inl (a : Int), .inl (b : Int), .inl 1, .inl (c : Int)] M (fun _ M' => FR [c] M M' ∧ FQ M' c (p + q)) := by
  intro Q hQ
  refine s_addsG (d := d) ha hb hc (Or.inl rfl) hp hq bp bq hk Q fun v M' ⟨h1, h2⟩ => hQ v M' ⟨h1, ?_⟩
  rw [Int.one_mul, ← Rat.add_def'] at h2
  exact h2
theorem s_subs {d : Nat} {M : Mem} {a b c : Nat} {p q : Rat} {ka kb : Nat} (ha : a < 95) (hb : b < 95) (hc : c < 95) (hp : FQ M a p) (hq : FQ M b q) (bp : Bd p ka) (bq : Bd q kb) (hk : ka + kb ≤ 299) :
    Post (d + 5) cM_adds [oM, .inl (a : Int), .inl (b : Int), .inl (-1), .inl (c : Int)] M (fun _ M' => FR [c] M M' ∧ FQ M' c (p - q)) := by
  intro Q hQ
  refine s_addsG (d := d) ha hb hc (Or.inr rfl) hp hq bp bq hk Q fun v M' ⟨h1, h2⟩ => hQ v M' ⟨h1, ?_⟩
  rw [Int.neg_mul, Int.one_mul, Int.neg_mul, ← Int.sub_eq_add_neg, ← Rat.sub_def'] at h2
  exact h2
theorem div_def' (p q : Rat) (hq : q ≠ 0) : p / q = mkRat (p.num * q.num.sign * q.den) (p.den * q.num.natAbs) := by
  have h : q.num ≠ 0 := fun e => hq (Rat.num_eq_zero.mp e)
  rw [Rat.div_def, Rat.mul_def', Rat.num_inv, Rat.den_inv, if_neg h, ← Int.mul_assoc]
/-- divides -/
theorem s_divides {d : Nat} {M : Mem} {a b c : Nat} {p q : Rat} {ka kb : Nat} (ha : a < 95) (hb : b < 95) (hc : c < 95) (hp : FQ M a p) (hq : FQ M b q) (h0 : q ≠ 0) (bp : Bd p ka) (bq : Bd q kb) (hk : ka + kb ≤ 300) :
    Post (d + 5) cM_divides [oM, .inl (a : Int), .inl (b : Int), .inl (c : Int)] M (fun _ M' => FR [c] M M' ∧ FQ M' c (p / q)) := by
  intro Q hQ
  obtain ⟨p1, p2, p3⟩ := hp
  obtain ⟨q1, q2, q3⟩ := hq
  refine e_M_divides (b_M_divides_0 ?_)
  rw [Int.toNat_natCast, Int.toNat_natCast, Int.toNat_natCast, show 2 * (a : Int) = ((2 * a : Nat) : Int) by omega, show ((2 * a : Nat) : Int) + 1 = ((2 * a + 1 : Nat) : Int) by omega, show 2 * (b : Int) = ((2 * b : Nat) : Int) by omega, show ((2 * b : Nat) : Int) + 1 = ((2 * b + 1 : Nat) : Int) by omega, show 2 * (c : Int) = ((2 * c : Nat) : Int) by omega, show ((2 * c : Nat) : Int) + 1 = ((2 * c + 1 : Nat) : Int) by omega]
  refine (s_multiplyRows (d := d + 2) (r1 := 2 * a) (r2 := 2 * b + 1) (r3 := 190) (by omega) (by omega) (by decide) (by omega) (by omega) p1 q2 bp.1 bq.2 hk).cal fun v1 M1 hM1 => ?_
  obtain ⟨f1, a1⟩ := hM1
  refine (s_multiplyRows (d := d + 2) (r1 := 2 * a + 1) (r2 := 2 * b) (r3 := 191) (by omega) (by omega) (by decide) (by omega) (by omega) (p2.kept f1 (by simp; omega)) (q1.kept f1 (by simp; omega)) bp.2 bq.1 hk).cal fun v2 M2 hM2 => ?_
  obtain ⟨f2, a2⟩ := hM2
  refine ⟨⟨by omega, by omega⟩, ⟨by omega, by omega⟩, ⟨by omega, by omega⟩, ?_⟩
  have f3 : RS [] [c] M2 (upd2 M2 165 c (M2 165 a * M2 165 b)) := RS.sign (by simp)
  refine (s_copyRow (d := d + 3) (a := 190) (b := 2 * c) (by decide) (by omega) (by omega) ((a1.kept f2 (by decide)).keptS f3 (by simp))).cal fun v4 M4 hM4 => ?_
  obtain ⟨f4, a4⟩ := hM4
  refine (s_copyRow (d := d + 3) (a := 191) (b := 2 * c + 1) (by decide) (by omega) (by omega) ((a2.keptS f3 (by simp)).kept f4 (by simp; omega))).cal fun v5 M5 hM5 => ?_
  obtain ⟨f5, a5⟩ := hM5
  have hs : M5 165 c = p.num.sign * q.num.sign := by
    rw [f5.sg, f4.sg, u2_same, f2.sg, f1.sg, p3, q3]
  have e4 := a4.kept f5 (r := 2 * c) (by simp)
  rw [← Int.natCast_mul] at e4 a5
  have hqn : q.num ≠ 0 := fun e => h0 (Rat.num_eq_zero.mp e)
  have hn : p.num.sign * q.num.sign * ((p.num.natAbs * q.den : Nat) : Int) = p.num * q.num.sign * q.den := by
    have h1 := sign_natAbs p.num
    rw [Int.natCast_mul, ← Int.mul_assoc, Int.mul_assoc p.num.sign, Int.mul_comm q.num.sign, ← Int.mul_assoc, h1]
  refine (s_reducesQ (d := d) (s := p.num.sign * q.num.sign) (n := p.num * q.num.sign * q.den) hc e4 a5 (Nat.mul_pos p.den_pos (by omega)) hs (by rw [← Int.sign_mul]; exact sign_cases _) (fun e => ?_) hn).cal fun v6 M6 hM6 => ?_
  · have : p.num.sign = 0 := by
      rcases Int.mul_eq_zero.mp e with z | z
      · exact z
      · exact absurd (Int.sign_eq_zero_iff_zero.mp z) hqn
    rw [Int.sign_eq_zero_iff_zero.mp this]
    simp
  obtain ⟨f6, a6⟩ := hM6
  rw [← div_def' p q h0] at a6
  refine hQ 0 M6 ⟨?_, a6⟩
  refine (((((f1.fr ?_).tr (f2.fr ?_)).tr (f3.fr ?_ ?_)).tr (f4.fr ?_)).tr (f5.fr ?_)).tr f6
  all_goals simp
  omega
theorem s_compares {d : Nat} {M : Mem} {a b : Nat} {p q : Rat} {ka kb : Nat} (ha : a < 95) (hb : b < 95) (hp : FQ M a p) (hq : FQ M b q) (bp : Bd p ka) (bq : Bd q kb) (hk : ka + kb ≤ 299) :
    Post (d + 6) cM_compares [oM, .inl (a : Int), .inl (b : Int)] M (fun v M' => FR [68] M M' ∧ v = (p - q).num.sign) := by
  intro Q hQ
  refine e_M_compares (b_M_compares_0 ?_)
  refine (s_subs (d := d) (c := 68) ha hb (by decide) hp hq bp bq hk).cal fun v1 M1 hM1 => ?_
  obtain ⟨f1, a1⟩ := hM1
  exact hQ _ M1 ⟨f1, a1.2.2⟩
/-- nothing of the reference but these cells, these slots of the object, these fractions has changed, and nothing of the class -/
def FM (cs ss l : List Nat) (M M' : Mem) : Prop := (∀ a, a ≠ 163 → a ≠ 164 → a ≠ 165 → a ≠ 175 → a ∉ cs → M' a = M a) ∧ (∀ s, s ∉ ss → M' 175 s = M 175 s) ∧ ∀ f, f < 95 → f ∉ l → ∀ q, FQ M f q → FQ M' f q
theorem FM.rfl' {cs ss l : List Nat} {M : Mem} : FM cs ss l M M := ⟨fun _ _ _ _ _ _ => rfl, fun _ _ => rfl, fun _ _ _ _ h => h⟩
theorem FM.tr {cs ss l : List Nat} {M M' M'' : Mem} (h : FM cs ss l M M') (h2 : FM cs ss l M' M'') : FM cs ss l M M'' := ⟨fun a q1 q2 q3 q4 q5 => (h2.1 a q1 q2 q3 q4 q5).trans (h.1 a q1 q2 q3 q4 q5), fun s hs => (h2.2.1 s hs).trans (h.2.1 s hs), fun f hf hl q hq => h2.2.2 f hf hl q (h.2.2 f hf hl q hq)⟩
theorem FM.mono {cs ss l cs' ss' l' : List Nat} {M M' : Mem} (h : FM cs ss l M M') (h1 : ∀ a, a ∈ cs → a ∈ cs') (h2 : ∀ a, a ∈ ss → a ∈ ss') (h3 : ∀ a, a ∈ l → a ∈ l') : FM cs' ss' l' M M' := ⟨fun a q1 q2 q3 q4 q5 => h.1 a q1 q2 q3 q4 fun z => q5 (h1 a z), fun s hs => h.2.1 s fun z => hs (h2 s z), fun f hf hn => h.2.2 f hf fun z => hn (h3 f z)⟩
theorem FR.fm {l : List Nat} {M M' : Mem} (h : FR l M M') : FM [] [] l M M' := ⟨fun a q1 q2 q3 _ _ => h.1 a q1 q2 q3, fun s _ => by rw [h.1 175 (by decide) (by decide) (by decide)], h.2⟩
theorem FQ.keptM {cs ss l : List Nat} {M M' : Mem} {f : Nat} {q : Rat} (h : FQ M f q) (hf : FM cs ss l M M') (h1 : f < 95) (h2 : f ∉ l) : FQ M' f q := hf.2.2 f h1 h2 q h
theorem FQ.off {M M' : Mem} {f : Nat} {q : Rat} (h : FQ M f q) (h1 : M' 163 = M 163) (h2 : M' 164 = M 164) (h3 : M' 165 = M 165) : FQ M' f q := by
  have e : ∀ r, rd M' r = rd M r := fun r => funext fun i => by unfold rd; rw [h1, h2]
  unfold FQ Row at h ⊢
  rw [e, e, h2, h3]
  exact h
theorem FM.slot {M : Mem} {s : Nat} {v : Int} : FM [] [s] [] M (upd2 M 175 s v) := ⟨fun a _ _ _ h _ => u2_off h, fun t ht => u2_ne (by simpa using ht), fun f _ _ q hq => hq.off (u2_off (by decide)) (u2_off (by decide)) (u2_off (by decide))⟩
theorem FM.cell {M : Mem} {c s : Nat} {v : Int} (h3 : c ≠ 163) (h4 : c ≠ 164) (h5 : c ≠ 165) (h7 : c ≠ 175) : FM [c] [] [] M (upd2 M c s v) := ⟨fun a _ _ _ _ h => u2_off (by simpa using h), fun t _ => by rw [u2_off (Ne.symm h7)], fun f _ _ q hq => hq.off (u2_off (Ne.symm h3)) (u2_off (Ne.symm h4)) (u2_off (Ne.symm h5))⟩
theorem s_comesTo {d : Nat} {M : Mem} {a : Nat} {q : Rat} (ha : a < 95) (h80 : a ≠ 80) (hq : FQ M a q) :
    Post (d + 3) cM_comesTo [oM, .inl (a : Int)] M (fun v M' => FM [] [0] [80] M M' ∧ FQ M' 80 q ∧ M' 175 0 = 0 ∧ v = q.num.sign) := by
  intro Q hQ
  refine e_M_comesTo (b_M_comesTo_0 ?_)
  refine (s_copies (d := d) (b := 80) ha (by decide) h80 hq).cal fun v1 M1 hM1 => ?_
  obtain ⟨f1, a1⟩ := hM1
  refine hQ _ _ ⟨(f1.fm.mono (by simp) (by simp) (by simp)).tr (FM.slot.mono (by simp) (by simp) (by simp)), a1.off (u2_off (by decide)) (u2_off (by decide)) (u2_off (by decide)), u2_same, a1.2.2⟩
