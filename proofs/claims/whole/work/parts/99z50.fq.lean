/-! The reference's fractions as numbers. -/
def FQ (M : Mem) (f : Nat) (q : Rat) : Prop := Row M (2 * f) ((q.num.natAbs : Nat) : Int) ∧ Row M (2 * f + 1) ((q.den : Nat) : Int) ∧ M 165 f = q.num.sign
/-- nothing but these fractions (and the scratch rows) has changed -/
def FR (l : List Nat) (M M' : Mem) : Prop := (∀ a, a ≠ 163 → a ≠ 164 → a ≠ 165 → M' a = M a) ∧ ∀ f, f < 95 → f ∉ l → ∀ q, FQ M f q → FQ M' f q
theorem FR.rfl' {l : List Nat} {M : Mem} : FR l M M := ⟨fun _ _ _ _ => rfl, fun _ _ _ _ h => h⟩
theorem FR.tr {l : List Nat} {M M' M'' : Mem} (h : FR l M M') (h2 : FR l M' M'') : FR l M M'' := ⟨fun a q1 q2 q3 => (h2.1 a q1 q2 q3).trans (h.1 a q1 q2 q3), fun f hf hl q hq => h2.2 f hf hl q (h.2 f hf hl q hq)⟩
theorem FR.mono {l l' : List Nat} {M M' : Mem} (h : FR l M M') (hl : ∀ a, a ∈ l → a ∈ l') : FR l' M M' := ⟨h.1, fun f hf hn => h.2 f hf fun z => hn (hl f z)⟩
theorem FQ.kept {l : List Nat} {M M' : Mem} {f : Nat} {q : Rat} (h : FQ M f q) (hf : FR l M M') (h1 : f < 95) (h2 : f ∉ l) : FQ M' f q := hf.2 f h1 h2 q h
theorem RS.fr {l ls l' : List Nat} {M M' : Mem} (h : RS l ls M M') (hl : ∀ r, r ∈ l → 190 ≤ r ∨ r / 2 ∈ l') (hs : ∀ a, a ∈ ls → a ∈ l') : FR l' M M' := by
  refine ⟨h.1, fun f hf hn q ⟨q1, q2, q3⟩ => ⟨q1.keptS h fun z => ?_, q2.keptS h fun z => ?_, ?_⟩⟩
  · rcases hl _ z with e | e
    · omega
    · exact hn (by rwa [show 2 * f / 2 = f by omega] at e)
  · rcases hl _ z with e | e
    · omega
    · exact hn (by rwa [show (2 * f + 1) / 2 = f by omega] at e)
  · rw [h.2.2.2 f fun z => hn (hs f z)]
    exact q3
theorem RF.fr {l l' : List Nat} {M M' : Mem} (h : RF l M M') (hl : ∀ r, r ∈ l → 190 ≤ r ∨ r / 2 ∈ l') : FR l' M M' := RS.fr (ls := []) h.rs hl (by simp)
theorem RF.sg {l : List Nat} {M M' : Mem} (h : RF l M M') : M' 165 = M 165 := h.1 165 (by decide) (by decide)
theorem FQ.sg {M : Mem} {f : Nat} {q : Rat} (h : FQ M f q) : M 165 f = -1 ∨ M 165 f = 0 ∨ M 165 f = 1 := by
  rw [h.2.2]
  rcases Int.lt_trichotomy q.num 0 with e | e | e
  · exact Or.inl (Int.sign_eq_neg_one_of_neg e)
  · exact Or.inr (Or.inl (by rw [e]; rfl))
  · exact Or.inr (Or.inr (Int.sign_eq_one_of_pos e))
theorem mk_parts {s n : Int} {p y : Nat} (hy : 0 < y) (hs : s = -1 ∨ s = 0 ∨ s = 1) (h0 : s = 0 → p = 0) (hn : s * p = n) :
    (mkRat n y).num.natAbs = p / Nat.gcd p y ∧ (mkRat n y).den = y / Nat.gcd p y ∧ (mkRat n y).num.sign = if p = 0 then 0 else s := by
  have hy' : y ≠ 0 := by omega
  have hg : 0 < Nat.gcd p y := Nat.gcd_pos_of_pos_right _ hy
  have hna : n.natAbs = p := by
    rcases hs with e | e | e
    · subst e; omega
    · have := h0 e; subst this; subst e; omega
    · subst e; omega
  obtain ⟨k, hk⟩ : Nat.gcd p y ∣ p := Nat.gcd_dvd_left _ _
  have hk' : p / Nat.gcd p y = k := by
    rw [Nat.div_eq_of_eq_mul_right hg hk]
  have e1 : n / (Nat.gcd p y : Int) = s * k := by
    refine Int.ediv_eq_of_eq_mul_right (by omega) ?_
    rw [← hn]
    conv => lhs; rw [hk]
    rw [Int.natCast_mul, ← Int.mul_assoc, ← Int.mul_assoc, Int.mul_comm s]
  have e2 : (mkRat n y).num = s * k := by
    rw [Rat.num_mkRat, if_neg hy', hna, Nat.gcd_comm, e1]
  refine ⟨?_, ?_, ?_⟩
  · rw [e2, hk']
    rcases hs with e | e | e
    · subst e; omega
    · have := h0 e
      subst this
      have : k = 0 := by
        rcases Nat.mul_eq_zero.mp hk.symm with q | q
        · omega
        · exact q
      subst this; subst e; rfl
    · subst e; omega
  · rw [Rat.den_mkRat, if_neg hy', hna, Nat.gcd_comm]
  · rw [e2]
    by_cases q : p = 0
    · rw [if_pos q]
      have : k = 0 := by
        rw [q] at hk
        rcases Nat.mul_eq_zero.mp hk.symm with z | z
        · rw [q] at hg; omega
        · exact z
      subst this
      simp
    · rw [if_neg q]
      have : 0 < k := Nat.pos_of_ne_zero fun e => q (by rw [hk, e, Nat.mul_zero])
      have h3 : (k : Int).sign = 1 := Int.sign_eq_one_of_pos (by omega)
      rw [Int.sign_mul, h3, Int.mul_one]
      rcases hs with e | e | e <;> subst e <;> rfl
/-- reduces: a number -/
theorem s_reducesQ {d : Nat} {M : Mem} {i p y : Nat} {s n : Int} (hi : i < 95) (hx : Row M (2 * i) (p : Int)) (hy : Row M (2 * i + 1) (y : Int)) (hy0 : 0 < y) (hsg : M 165 i = s) (hs : s = -1 ∨ s = 0 ∨ s = 1) (h0 : s = 0 → p = 0) (hn : s * p = n) :
    Post (d + 4) cM_reduces [oM, .inl (i : Int)] M (fun _ M' => FR [i] M M' ∧ FQ M' i (mkRat n y)) := by
  intro Q hQ
  refine s_reduces (d := d) (by omega) hx hy hy0 Q fun v M' ⟨a1, a2, a3, a4⟩ => hQ v M' ⟨?_, ?_⟩
  · refine a1.fr (fun r hr => ?_) (fun a ha => ha)
    simp only [List.mem_cons, List.not_mem_nil, or_false] at hr ⊢
    omega
  · obtain ⟨e1, e2, e3⟩ := mk_parts hy0 hs h0 hn
    refine ⟨by rw [e1]; exact a2, by rw [e2]; exact a3, ?_⟩
    rw [a4, e3, hsg]
theorem s_sets {d : Nat} {M : Mem} {i y : Nat} {x : Int} (hi : i < 95) (hx : -9223372036854775808 < x ∧ x < 9223372036854775808) (hy : 0 < y) (hy2 : y < 9223372036854775808) :
    Post (d + 5) cM_sets [oM, .inl (i : Int), .inr (.inl x), .inr (.inl (y : Int))] M (fun _ M' => FR [i] M M' ∧ FQ M' i (mkRat x y)) := by
  intro Q hQ
  have key : ∀ (s : Int) (p : Nat) (M0 : Mem), M0 = upd2 M 165 i s → (s = -1 ∨ s = 0 ∨ s = 1) → (s = 0 → p = 0) → s * p = x → p < 9223372036854775808 →
      cald (d + 4) cM_setRow [oM, .inl (2 * (i : Int)), .inr (.inl (p : Int))] M0 (fun r M1 => Rt r (fun _v1 => cald (d + 4) cM_setRow [oM, .inl ((2 * (i : Int)) + 1), .inr (.inl (y : Int))] M1 (fun r M2 => Rt r (fun _v2 => cald (d + 4) cM_reduces [oM, .inl (i : Int)] M2 (fun r M3 => Rt r (fun _v3 => Q (.inl 0) M3) (fun x => Q (.inr x) M3))) (fun x => Q (.inr x) M2))) (fun x => Q (.inr x) M1)) := by
    intro s p M0 hM0 hs h0 hsx hp
    have f0 : RS [] [i] M M0 := by rw [hM0]; exact RS.sign (by simp)
    have sg0 : M0 165 i = s := by rw [hM0, u2_same]
    rw [show 2 * (i : Int) = ((2 * i : Nat) : Int) by omega, show ((2 * i : Nat) : Int) + 1 = ((2 * i + 1 : Nat) : Int) by omega]
    refine (s_setRow (d := d + 3) (r := 2 * i) (by omega) (by omega) (by omega)).cal fun v1 M1 hM1 => ?_
    obtain ⟨f1, a1⟩ := hM1
    refine (s_setRow (d := d + 3) (r := 2 * i + 1) (by omega) (by omega) (by omega)).cal fun v2 M2 hM2 => ?_
    obtain ⟨f2, a2⟩ := hM2
    refine (s_reducesQ (d := d) (s := s) hi (a1.kept f2 (by simp)) a2 hy (by rw [f2.sg, f1.sg]; exact sg0) hs h0 hsx).cal fun v3 M3 hM3 => ?_
    obtain ⟨f3, a3⟩ := hM3
    refine hQ 0 M3 ⟨?_, a3⟩
    refine ((f0.fr (by simp) (by simp)).tr ((f1.fr ?_).tr ((f2.fr ?_)))).tr f3
    · simp
    · simp; omega
  refine e_M_sets (b_M_sets_0 ?_)
  rw [Int.toNat_natCast]
  refine ⟨⟨by omega, by omega⟩, fun h => ⟨fun h2 => ⟨⟨by omega, by omega⟩, b_M_sets_17 ⟨⟨by omega, by omega⟩, fun h3 => ?_, fun h3 => absurd h h3⟩⟩, fun h2 => ⟨⟨by omega, by omega⟩, b_M_sets_17 ⟨⟨by omega, by omega⟩, fun h3 => ?_, fun h3 => absurd h h3⟩⟩⟩, fun h => ⟨⟨by omega, by omega⟩, b_M_sets_17 ⟨⟨by omega, by omega⟩, fun h3 => absurd h3 h, fun h3 => ?_⟩⟩⟩
  · obtain ⟨p, rfl⟩ : ∃ p : Nat, x = p := ⟨x.toNat, by omega⟩
    exact key 0 p _ rfl (Or.inr (Or.inl rfl)) (fun _ => by omega) (by omega) (by omega)
  · obtain ⟨p, rfl⟩ : ∃ p : Nat, x = p := ⟨x.toNat, by omega⟩
    exact key 1 p _ rfl (Or.inr (Or.inr rfl)) (fun e => absurd e (by decide)) (by omega) (by omega)
  · obtain ⟨p, hp⟩ : ∃ p : Nat, -x = p := ⟨(-x).toNat, by omega⟩
    rw [hp]
    exact key (-1) p _ rfl (Or.inl rfl) (fun e => absurd e (by decide)) (by omega) (by omega)
theorem s_copies {d : Nat} {M : Mem} {a b : Nat} {q : Rat} (ha : a < 95) (hb : b < 95) (hab : a ≠ b) (hq : FQ M a q) :
    Post (d + 2) cM_copies [oM, .inl (a : Int), .inl (b : Int)] M (fun _ M' => FR [b] M M' ∧ FQ M' b q) := by
  intro Q hQ
  obtain ⟨q1, q2, q3⟩ := hq
  refine e_M_copies (b_M_copies_0 ⟨⟨by omega, by omega⟩, ⟨by omega, by omega⟩, ?_⟩)
  rw [Int.toNat_natCast, Int.toNat_natCast, show 2 * (a : Int) = ((2 * a : Nat) : Int) by omega, show ((2 * a : Nat) : Int) + 1 = ((2 * a + 1 : Nat) : Int) by omega, show 2 * (b : Int) = ((2 * b : Nat) : Int) by omega, show ((2 * b : Nat) : Int) + 1 = ((2 * b + 1 : Nat) : Int) by omega]
  have f0 : RS [] [b] M (upd2 M 165 b (M 165 a)) := RS.sign (by simp)
  refine (s_copyRow (d := d) (a := 2 * a) (b := 2 * b) (by omega) (by omega) (by omega) (q1.keptS f0 (by simp))).cal fun v1 M1 hM1 => ?_
  obtain ⟨f1, a1⟩ := hM1
  refine (s_copyRow (d := d) (a := 2 * a + 1) (b := 2 * b + 1) (by omega) (by omega) (by omega) ((q2.keptS f0 (by simp)).kept f1 (by simp; omega))).cal fun v2 M2 hM2 => ?_
  obtain ⟨f2, a2⟩ := hM2
  refine hQ 0 M2 ⟨((f0.fr (by simp) (by simp)).tr (f1.fr ?_)).tr (f2.fr ?_), a1.kept f2 (by simp), a2, ?_⟩
  · simp
  · simp; omega
  · rw [f2.sg, f1.sg, u2_same]
    exact q3
/-- numbers that fit so many places -/
def Bd (q : Rat) (k : Nat) : Prop := ((q.num.natAbs : Nat) : Int) < 10000 ^ k ∧ ((q.den : Nat) : Int) < 10000 ^ k
theorem Bd.mono {q : Rat} {k m : Nat} (h : Bd q k) (hk : k ≤ m) : Bd q m := ⟨Int.lt_of_lt_of_le h.1 (pw_mono (by decide) hk), Int.lt_of_lt_of_le h.2 (pw_mono (by decide) hk)⟩
theorem fits_mul {v w : Int} {a b : Nat} (hw0 : 0 ≤ w) (hv : v < 10000 ^ a) (hw : w < 10000 ^ b) : v * w < 10000 ^ (a + b) := by
  have h1 : v * w ≤ 10000 ^ a * w := Int.mul_le_mul_of_nonneg_right (Int.le_of_lt hv) hw0
  have h2 : 10000 ^ a * w < 10000 ^ a * 10000 ^ b := Int.mul_lt_mul_of_pos_left hw (pw_pos (by decide) a)
  rw [Int.pow_add]
  omega
theorem sign_natAbs (x : Int) : x.sign * ((x.natAbs : Nat) : Int) = x := Int.sign_mul_natAbs x
theorem sign_cases (x : Int) : x.sign = -1 ∨ x.sign = 0 ∨ x.sign = 1 := by
  rcases Int.lt_trichotomy x 0 with e | e | e
  · exact Or.inl (Int.sign_eq_neg_one_of_neg e)
  · exact Or.inr (Or.inl (by rw [e]; rfl))
  · exact Or.inr (Or.inr (Int.sign_eq_one_of_pos e))
/-- multiplies -/
theorem s_multiplies {d : Nat} {M : Mem} {a b c : Nat} {p q : Rat} {ka kb : Nat} (ha : a < 95) (hb : b < 95) (hc : c < 95) (hp : FQ M a p) (hq : FQ M b q) (bp : Bd p ka) (bq : Bd q kb) (hk : ka + kb ≤ 300) :
    Post (d + 5) cM_multiplies [oM, .inl (a : Int), .inl (b : Int), .inl (c : Int)] M (fun _ M' => FR [c] M M' ∧ FQ M' c (p * q)) := by
  intro Q hQ
  obtain ⟨p1, p2, p3⟩ := hp
  obtain ⟨q1, q2, q3⟩ := hq
  refine e_M_multiplies (b_M_multiplies_0 ?_)
  rw [Int.toNat_natCast, Int.toNat_natCast, Int.toNat_natCast, show 2 * (a : Int) = ((2 * a : Nat) : Int) by omega, show ((2 * a : Nat) : Int) + 1 = ((2 * a + 1 : Nat) : Int) by omega, show 2 * (b : Int) = ((2 * b : Nat) : Int) by omega, show ((2 * b : Nat) : Int) + 1 = ((2 * b + 1 : Nat) : Int) by omega, show 2 * (c : Int) = ((2 * c : Nat) : Int) by omega, show ((2 * c : Nat) : Int) + 1 = ((2 * c + 1 : Nat) : Int) by omega]
  refine (s_multiplyRows (d := d + 2) (r1 := 2 * a) (r2 := 2 * b) (r3 := 190) (by omega) (by omega) (by decide) (by omega) (by omega) p1 q1 bp.1 bq.1 hk).cal fun v1 M1 hM1 => ?_
  obtain ⟨f1, a1⟩ := hM1
  refine (s_multiplyRows (d := d + 2) (r1 := 2 * a + 1) (r2 := 2 * b + 1) (r3 := 191) (by omega) (by omega) (by decide) (by omega) (by omega) (p2.kept f1 (by simp; omega)) (q2.kept f1 (by simp; omega)) bp.2 bq.2 hk).cal fun v2 M2 hM2 => ?_
  obtain ⟨f2, a2⟩ := hM2
  refine ⟨⟨by omega, by omega⟩, ⟨by omega, by omega⟩, ⟨by omega, by omega⟩, ?_⟩
  have f3 : RS [] [c] M2 (upd2 M2 165 c (M2 165 a * M2 165 b)) := RS.sign (by simp)
  refine (s_copyRow (d := d + 3) (a := 190) (b := 2 * c) (by decide) (by omega) (by omega) ((a1.kept f2 (by decide)).keptS f3 (by simp))).cal fun v4 M4 hM4 => ?_
  obtain ⟨f4, a4⟩ := hM4
  refine (s_copyRow (d := d + 3) (a := 191) (b := 2 * c + 1) (by decide) (by omega) (by omega) ((a2.keptS f3 (by simp)).kept f4 (by simp; omega))).cal fun v5 M5 hM5 => ?_
  obtain ⟨f5, a5⟩ := hM5
  have hs : M5 165 c = (p.num * q.num).sign := by
    rw [f5.sg, f4.sg, u2_same, f2.sg, f1.sg, p3, q3, Int.sign_mul]
  have e4 := a4.kept f5 (r := 2 * c) (by simp)
  rw [← Int.natCast_mul, ← Int.natAbs_mul] at e4
  rw [← Int.natCast_mul] at a5
  refine (s_reducesQ (d := d) (s := (p.num * q.num).sign) (n := p.num * q.num) hc e4 a5 (Nat.mul_pos p.den_pos q.den_pos) hs (sign_cases _) (fun e => by rw [Int.sign_eq_zero_iff_zero.mp e]; rfl) (sign_natAbs _)).cal fun v6 M6 hM6 => ?_
  obtain ⟨f6, a6⟩ := hM6
  rw [← Rat.mul_def'] at a6
  refine hQ 0 M6 ⟨?_, a6⟩
  refine (((((f1.fr ?_).tr (f2.fr ?_)).tr (f3.fr ?_ ?_)).tr (f4.fr ?_)).tr (f5.fr ?_)).tr f6
  all_goals simp
  omega
