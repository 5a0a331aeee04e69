/-! The reference: result, write. -/
theorem DDp (k : Nat) : (10000 : Int) ^ k = 10 ^ (4 * k) := by
  rw [Int.pow_mul, show (10 : Int) ^ 4 = 10000 by decide]
theorem dc4_math {n i : Nat} {t low v : Int} (hi : 1 ≤ i) (h1 : 10 ^ (i - 1) ≤ t) (h2 : t < 10 ^ i) (hl : 0 ≤ low ∧ low < 10 ^ (4 * n)) (hv : v = low + t * 10 ^ (4 * n)) : v < 10 ^ (4 * n + i) ∧ 10 ^ (4 * n + i - 1) ≤ v := by
  have hp := ten_pos (4 * n)
  constructor
  · rw [Int.pow_add, Int.mul_comm]
    have h3 : (t + 1) * 10 ^ (4 * n) ≤ 10 ^ i * 10 ^ (4 * n) := Int.mul_le_mul_of_nonneg_right h2 (Int.le_of_lt hp)
    rw [Int.add_mul, Int.one_mul] at h3
    omega
  · rw [show 4 * n + i - 1 = 4 * n + (i - 1) by omega, Int.pow_add, Int.mul_comm]
    have h3 : 10 ^ (i - 1) * 10 ^ (4 * n) ≤ t * 10 ^ (4 * n) := Int.mul_le_mul_of_nonneg_right h1 (Int.le_of_lt hp)
    omega
theorem s_digitsOf {d : Nat} {M : Mem} {r : Nat} {v : Int} (hr : r < 200) (hv : Row M r v) :
    Post (d + 1) cM_digitsOf [oM, .inl (r : Int)] M (fun b M' => M' = M ∧ ∃ c : Nat, b = c ∧ DC v c ∧ (c : Int) ≤ 4 * M 164 r + 1) := by
  intro Q hQ
  have hs := hv.size
  obtain ⟨n, hn⟩ : ∃ n : Nat, M 164 r = n := ⟨(M 164 r).toNat, by omega⟩
  obtain ⟨p1, p2, p3⟩ := hv.range hn
  refine e_M_digitsOf (b_M_digitsOf_0 ?_)
  rw [Int.toNat_natCast, hn]
  refine ⟨⟨by omega, by omega⟩, ⟨by omega, by omega⟩, fun h => ?_, fun h => ?_⟩
  · obtain ⟨m, rfl⟩ : ∃ m, n = m + 1 := ⟨n - 1, by omega⟩
    rw [show (300 * (r : Int) + ((m + 1 : Nat) : Int) - 1).toNat = 300 * r + m by omega]
    have hv0 : v ≠ 0 := fun e => by have := hv.zero_iff.mpr e; omega
    have er : rd M r m = M 163 (300 * r + m) := if_pos (by omega)
    have dm := hv.1 m
    have b0 := hv.1.bs0 DD0 m
    have b1 := hv.1.bsl DD0 m
    have ev : v = bs 10000 (rd M r) m + rd M r m * 10000 ^ m := p3
    have htl : 1 ≤ rd M r m := by
      rcases Int.lt_or_le (rd M r m) 1 with q | q
      · exfalso
        have : rd M r m = 0 := by omega
        rw [this, Int.zero_mul, Int.add_zero] at ev
        have := p2 (by omega)
        rw [Nat.add_sub_cancel] at this
        omega
      · exact q
    rw [DDp] at b1 ev
    rw [er] at ev htl dm
    have fin : ∀ i : Nat, 1 ≤ i → i ≤ 4 → 10 ^ (i - 1) ≤ M 163 (300 * r + m) → M 163 (300 * r + m) < 10 ^ i → Q (.inl (4 * (((m + 1 : Nat) : Int) - 1) + (i : Int))) M := by
      intro i i1 i2 i3 i4
      obtain ⟨k1, k2⟩ := dc4_math i1 i3 i4 ⟨b0, b1⟩ ev
      exact hQ _ M ⟨rfl, 4 * m + i, by omega, ⟨by omega, k1, fun e => absurd e hv0, fun _ => k2⟩, by omega⟩
    refine ⟨⟨by omega, by omega⟩, ⟨by omega, by omega⟩, fun h1 => ⟨fun h2 => ⟨fun h3 => fin 1 (by decide) (by decide) (by simpa using htl) (by omega), fun h3 => fin 2 (by decide) (by decide) (by omega) (by omega)⟩, fun h2 => fin 3 (by decide) (by decide) (by omega) (by omega)⟩, fun h1 => fin 4 (by decide) (by decide) (by omega) (by omega)⟩
  · have h0 : M 164 r = 0 := by rw [hn]; exact Classical.not_not.mp h
    have e := hv.zero_iff.mp h0
    exact hQ 1 M ⟨rfl, 1, rfl, ⟨Nat.le_refl 1, by rw [e]; decide, fun _ => rfl, fun q => absurd e q⟩, by omega⟩
theorem da4_math {a rest low v : Int} {k m : Nat} (hm : m < 4) (hv : v = low + 10 ^ (4 * k) * (a + 10 ^ 4 * rest)) (hl : 0 ≤ low ∧ low < 10 ^ (4 * k)) : v / 10 ^ (4 * k + m) % 10 = a / 10 ^ m % 10 := by
  have hp := ten_pos (4 * k)
  have hq := ten_pos m
  have e9 : (10 : Int) ^ 4 = 10 ^ (3 - m) * 10 * 10 ^ m := by
    rw [← Int.pow_succ, ← Int.pow_add]
    congr 1
    omega
  have ea : 10 ^ m * (a / 10 ^ m) + a % 10 ^ m = a := Int.mul_ediv_add_emod _ _
  have m0 : 0 ≤ a % 10 ^ m := Int.emod_nonneg _ (by omega)
  have m1 : a % 10 ^ m < 10 ^ m := Int.emod_lt_of_pos _ hq
  generalize hx : a / 10 ^ m = x at *
  generalize hy : a % 10 ^ m = y at *
  have e1 : v = (x + 10 * (10 ^ (3 - m) * rest)) * (10 ^ (4 * k) * 10 ^ m) + (low + 10 ^ (4 * k) * y) := by
    rw [hv, e9, ← ea]; grind
  have y0 : 0 ≤ 10 ^ (4 * k) * y := Int.mul_nonneg (Int.le_of_lt hp) m0
  have y1 : 10 ^ (4 * k) * (y + 1) ≤ 10 ^ (4 * k) * 10 ^ m := Int.mul_le_mul_of_nonneg_left m1 (Int.le_of_lt hp)
  have y2 : 10 ^ (4 * k) * (y + 1) = 10 ^ (4 * k) * y + 10 ^ (4 * k) := by grind
  obtain ⟨q1, -⟩ := divq (U := v) (D := 10 ^ (4 * k) * 10 ^ m) (b := x + 10 * (10 ^ (3 - m) * rest)) (by omega) (by rw [Int.add_mul, Int.one_mul]; omega)
  rw [Int.pow_add, q1, Int.add_mul_emod_self_left]
theorem row_digit {M : Mem} {r p : Nat} {v : Int} (hv : Row M r v) (hp : p < 1200) : v / 10 ^ p % 10 = rd M r (p / 4) / 10 ^ (p % 4) % 10 := by
  have hs := hv.size
  have ep : 4 * (p / 4) + p % 4 = p := by omega
  have e20 := hv.at_ (m := 300) (by omega)
  rw [show 300 = p / 4 + (299 - p / 4 + 1) by omega, bs_split, sg_head, DDp] at e20
  have b1 := hv.1.bsl DD0 (p / 4)
  rw [DDp] at b1
  have := da4_math (k := p / 4) (m := p % 4) (by omega) e20 ⟨hv.1.bs0 DD0 _, b1⟩
  rw [ep] at this
  exact this
theorem Row.tape {M : Mem} {r : Nat} {v w : Int} {n : Nat} (h : Row M r v) : Row (upd2 (upd2 M 150 n w) 175 2 ((n : Int) + 1)) r v := by
  unfold Row rd at h ⊢
  rw [u2_off (by decide), u2_off (by decide), u2_off (by decide), u2_off (by decide)]
  exact h
theorem FM.puts {M : Mem} {n : Nat} {w : Int} : FM [150] [2] [] M (upd2 (upd2 M 150 n w) 175 2 ((n : Int) + 1)) := ((FM.cell (by decide) (by decide) (by decide) (by decide)).mono (by simp) (by simp) (by simp)).tr (FM.slot.mono (by simp) (by simp) (by simp))
theorem pdM_loop {d : Nat} {Q : Rs → Mem → Prop} {r : Nat} {v : Int} (hr : r < 200) : ∀ (c n : Nat) (M : Mem) (o3 : Option PV), Row M r v → M 175 2 = n → n + c ≤ 900 →
    (∀ M', FM [150] [2] [] M M' → (∀ r v, Row M r v → Row M' r v) → M' 175 2 = ((n + c : Nat) : Int) → M' 150 = pd v c (M 150) n → Q (.inl 0) M') → L_M_putsRow_6 (d + 1) Q M (r : Int) ((c : Int) - 1) o3
  | 0, n, M, o3, hv, hn, h9, hQ => b_M_putsRow_6 ⟨⟨by omega, by omega⟩, fun _ => hQ M FM.rfl' (fun _ _ h => h) (by rw [hn]; omega) rfl, fun h => absurd (by omega) h⟩
  | c + 1, n, M, o3, hv, hn, h9, hQ => by
    rw [show ((c + 1 : Nat) : Int) - 1 = (c : Int) by omega]
    have K : ∀ u : Nat, u < 4 → c % 4 = u → ∀ w : Int, (10 : Int) ^ u = w → L_M_putsRow_30 (d + 1) Q M (r : Int) (c : Int) w := by
      intro u hu hc w hw
      have hw1 : 0 < w ∧ w ≤ 1000 := by
        rw [← hw]
        have h1 := ten_pos u
        have h2 : (10 : Int) ^ u ≤ 10 ^ 3 := pw_mono (by decide) (by omega)
        have h3 : (10 : Int) ^ 3 = 1000 := by decide
        omega
      refine b_M_putsRow_30 ⟨⟨by omega, by omega⟩, ?_⟩
      rw [show (c : Int) / 4 = ((c / 4 : Nat) : Int) by omega]
      refine (s_at' (d := d) hr hv.size (by omega)).cal fun v1 M1 hM1 => ?_
      obtain ⟨rfl, rfl⟩ := hM1
      have hd := hv.1 (c / 4)
      have q0 : 0 ≤ rd M1 r (c / 4) / w := Int.ediv_nonneg hd.1 (by omega)
      have q1 : rd M1 r (c / 4) / w ≤ rd M1 r (c / 4) := Int.ediv_le_self _ hd.1
      refine ⟨⟨by omega, by omega⟩, ⟨by omega, by omega⟩, ⟨by omega, by omega⟩, ?_⟩
      have ed : v / 10 ^ c % 10 = rd M1 r (c / 4) / w % 10 := by rw [row_digit hv (by omega), hc, hw]
      rw [← ed]
      refine (s_puts (d := d) hn (by omega)).cal fun v2 M2 hM2 => ?_
      subst hM2
      refine pdM_loop hr c (n + 1) _ _ hv.tape (by rw [u2_same]; omega) (by omega) fun M' f1 fr f2 f3 => hQ M' (FM.puts.tr f1) (fun r v h => fr r v h.tape) (by rw [f2]; omega) ?_
      rw [f3, u2_off (by decide), u2_row]
      rfl
    refine b_M_putsRow_6 ⟨⟨by omega, by omega⟩, fun h => absurd h (by omega), fun _ => ⟨⟨by omega, by omega⟩, ⟨by omega, by omega⟩, fun h0 => ⟨fun h1 => ⟨fun h2 => ?_, fun h2 => ?_⟩, fun h1 => ?_⟩, fun h0 => ?_⟩⟩
    · exact K 3 (by decide) (by omega) _ rfl
    · exact K 2 (by decide) (by omega) _ rfl
    · exact K 1 (by decide) (by omega) _ rfl
    · exact K 0 (by decide) (by omega) _ rfl
theorem s_putsRow {d : Nat} {M : Mem} {r n : Nat} {v : Int} (hr : r < 200) (hv : Row M r v) (hn : M 175 2 = n) {c : Nat} (hc : DC v c) (h9 : n + c ≤ 900) :
    Post (d + 2) cM_putsRow [oM, .inl (r : Int)] M (fun _ M' => FM [150] [2] [] M M' ∧ (∀ r v, Row M r v → Row M' r v) ∧ M' 175 2 = ((n + c : Nat) : Int) ∧ M' 150 = pd v c (M 150) n) := by
  intro Q hQ
  refine e_M_putsRow (b_M_putsRow_0 ?_)
  refine (s_digitsOf (d := d) hr hv).cal fun v1 M1 hM1 => ?_
  obtain ⟨rfl, e, rfl, he, -⟩ := hM1
  have := he.uniq hc
  subst this
  exact pdM_loop hr e n M1 _ hv hn h9 fun M' f1 fr f2 f3 => hQ 0 M' ⟨f1, fr, f2, f3⟩
theorem s_told {d : Nat} {M : Mem} {v : Int} : Post (d + 1) cM_told [oM, .inl v] M (fun x M' => M' = upd2 M 175 0 0 ∧ x = v) := fun Q hQ => e_M_told (b_M_told_0 (hQ _ _ ⟨rfl, rfl⟩))
theorem s_refuse {d : Nat} {M : Mem} {v : Int} : Post (d + 1) cM_refuse [oM, .inl v] M (fun x M' => M' = upd2 M 175 0 v ∧ x = 0) := fun Q hQ => e_M_refuse (b_M_refuse_0 (hQ _ _ ⟨rfl, rfl⟩))
theorem s_in {d : Nat} {M : Mem} {v a b : Int} (hv : R32 v) (ha : R32 a) (hb : R32 b) : Post (d + 1) cM_in [.inl v, .inl a, .inl b] M (fun x M' => M' = M ∧ ((x = 1 ∧ a ≤ v ∧ v ≤ b) ∨ (x = 0 ∧ ¬ (a ≤ v ∧ v ≤ b)))) := by
  intro Q hQ
  exact e_M_in (b_M_in_0 ⟨hv, ha, fun h => hQ _ _ ⟨rfl, Or.inr ⟨rfl, by omega⟩⟩, fun h => ⟨hb, fun h2 => hQ _ _ ⟨rfl, Or.inr ⟨rfl, by omega⟩⟩, fun h2 => hQ _ _ ⟨rfl, Or.inl ⟨rfl, by omega, by omega⟩⟩⟩⟩)
/-- write -/
theorem s_Mwrite {d : Nat} {M : Mem} {q : Rat} {a b : Nat} (hq : FQ M 80 q) (h0 : 0 ≤ q) (ha : DC q.num a) (hb : DC (q.den : Int) b) (hab : a + 1 + b ≤ 900) :
    Post (d + 3) cM_write [oM] M (fun x M' => FM [150] [0, 2] [] M M' ∧ x = ((a + 1 + b : Nat) : Int) ∧ M' 175 0 = 0 ∧ M' 175 2 = ((a + 1 + b : Nat) : Int) ∧ M' 150 = pd (q.den : Int) b (sr (pd q.num a (M 150) 0) a 47) (a + 1)) := by
  intro Q hQ
  have hn : 0 ≤ q.num := Rat.num_nonneg.mpr h0
  obtain ⟨q1, q2, q3⟩ := hq
  rw [Int.natAbs_of_nonneg hn] at q1
  have hs : 0 ≤ M 165 80 ∧ M 165 80 ≤ 1 := by
    rw [q3]
    rcases sign_cases q.num with e | e | e
    · have := Int.sign_eq_neg_one_iff_neg.mp e; omega
    · omega
    · omega
  refine e_M_write (b_M_write_0 ?_)
  refine (s_digitsOf (d := d + 1) (r := 160) (by decide) q1).cal fun v1 M1 hM1 => ?_
  obtain ⟨rfl, c1, rfl, hc1, -⟩ := hM1
  have := hc1.uniq ha
  subst this
  refine (s_digitsOf (d := d + 1) (r := 161) (by decide) q2).cal fun v2 M2 hM2 => ?_
  obtain ⟨rfl, c2, rfl, hc2, -⟩ := hM2
  have := hc2.uniq hb
  subst this
  have f0 : FM [150] [0, 2] [] M2 (upd2 M2 175 2 0) := FM.slot.mono (by simp) (by simp) (by simp)
  refine ⟨⟨by omega, by omega⟩, fun _ => ?_, fun h => absurd hs.1 h⟩
  refine b_M_write_19 ⟨⟨by omega, by omega⟩, fun _ => ⟨⟨by omega, by omega⟩, fun _ => ?_, fun h => absurd hs.1 h⟩, fun h => absurd (by omega) h⟩
  have R0 : ∀ r v, Row M2 r v → Row (upd2 M2 175 2 0) r v := fun r v h => by
    unfold Row rd at h ⊢
    rw [u2_off (by decide), u2_off (by decide)]
    exact h
  refine (s_putsRow (d := d) (r := 160) (n := 0) (by decide) (R0 _ _ q1) u2_same ha (by omega)).cal fun v3 M3 hM3 => ?_
  obtain ⟨f3, r3, l3, t3⟩ := hM3
  rw [Nat.zero_add] at l3
  refine (s_puts (d := d + 1) l3 (by omega)).cal fun v4 M4 hM4 => ?_
  subst hM4
  refine (s_putsRow (d := d) (r := 161) (n := c1 + 1) (by decide) (r3 _ _ (R0 _ _ q2)).tape (by rw [u2_same]; omega) hb (by omega)).cal fun v5 M5 hM5 => ?_
  obtain ⟨f5, r5, l5, t5⟩ := hM5
  refine (s_told (d := d + 1)).cal fun v6 M6 hM6 => ?_
  obtain ⟨rfl, rfl⟩ := hM6
  refine hQ _ _ ⟨?_, by rw [l5], u2_same, by rw [u2_ne (by decide), l5], ?_⟩
  · exact (((f0.tr (f3.mono (by simp) (by simp) (by simp))).tr (FM.puts.mono (by simp) (by simp) (by simp))).tr (f5.mono (by simp) (by simp) (by simp))).tr (FM.slot.mono (by simp) (by simp) (by simp))
  · rw [u2_off (by decide), t5, u2_off (by decide), u2_row, t3, u2_off (by decide)]
theorem neg_loop {d : Nat} {Q : Rs → Mem → Prop} {M : Mem} {r : Nat} {v : Int} {o1 : Option PV} (hr : r < 200) (hv : Row M r v) (hQ : Q (.inl v) (upd2 M 175 0 0)) : ∀ (n : Nat) (j : Int), (n : Int) ≤ M 164 r → - j * 10000 ^ n + bs 10000 (rd M r) n = v → L_M_result_55 d Q M o1 (r : Int) 0 j ((n : Int) - 1)
  | 0, j, hn, hj => by
    refine b_M_result_55 ⟨⟨by omega, by omega⟩, fun _ => ⟨⟨by decide, by decide⟩, fun _ => ?_, fun h => absurd rfl h⟩, fun h => absurd (by omega) h⟩
    have : -j = v := by rw [← hj]; simp [bs]
    rw [this]
    exact hQ
  | n + 1, j, hn, hj => by
    have hs := hv.size
    have er : rd M r n = M 163 (300 * r + n) := if_pos (by omega)
    have hd := hv.1 n
    rw [er] at hd
    refine b_M_result_55 ⟨⟨by omega, by omega⟩, fun h => absurd h (by omega), fun _ => ?_⟩
    rw [show (300 * (r : Int) + (((n + 1 : Nat) : Int) - 1)).toNat = 300 * r + n by omega]
    refine ⟨⟨by omega, by omega⟩, ⟨by omega, by omega⟩, ?_⟩
    rw [show ((n + 1 : Nat) : Int) - 1 + -1 = (n : Int) - 1 by omega]
    refine neg_loop hr hv hQ n _ (by omega) ?_
    rw [← hj, ← er]
    show _ = -j * 10000 ^ (n + 1) + (bs 10000 (rd M r) n + rd M r n * 10000 ^ n)
    rw [Int.pow_succ]
    grind
theorem FQ.nn {M : Mem} {f : Nat} {q : Rat} (h : FQ M f q) (h0 : 0 ≤ q) : 0 ≤ M 165 f ∧ M 165 f ≤ 1 := by
  have hn : 0 ≤ q.num := Rat.num_nonneg.mpr h0
  rw [h.2.2]
  rcases sign_cases q.num with e | e | e
  · have := Int.sign_eq_neg_one_iff_neg.mp e; omega
  · omega
  · omega
/-- result -/
theorem s_Mresult {d : Nat} {M : Mem} {q : Rat} {b : Int} (hb : R32 b) (hq : FQ M 80 q) (h0 : 0 ≤ q) :
    Post (d + 2) cM_result [oM, .inl b] M (fun x M' => FM [] [0] [] M M' ∧ if (if b = 0 then q.num else (q.den : Int)) < 9223372036854775808 then (M' 175 0 = 0 ∧ x = if b = 0 then q.num else (q.den : Int)) else M' 175 0 = 1) := by
  intro Q hQ
  have hn : 0 ≤ q.num := Rat.num_nonneg.mpr h0
  have hs := hq.nn h0
  have hq0 := hq
  obtain ⟨q1, q2, q3⟩ := hq
  rw [Int.natAbs_of_nonneg hn] at q1
  have K19 : ∀ (r : Nat) (v : Int) (o1 o3 o4 o5 o6 : Option PV) (M1 : Mem), r < 200 → Row M1 r v → (if b = 0 then q.num else (q.den : Int)) = v → Row M1 194 9223372036854775807 → FR [] M M1 → L_M_result_19 (d + 1) Q M1 o1 (r : Int) o3 o4 o5 o6 := by
    intro r v o1 o3 o4 o5 o6 M1 hr hv he hE hf
    refine b_M_result_19 ⟨fun _ => ?_, fun h => absurd rfl h⟩
    refine (s_compareRows (d := d) (a := r) (b := 194) hr (by decide) hv hE).cal fun v1 M2 hM2 => ?_
    obtain ⟨rfl, hc⟩ := hM2
    rw [Int.toNat_natCast]
    have hsz := hv.size
    by_cases g : v < 9223372036854775808
    · have : v1 ≤ 0 ∧ -1 ≤ v1 := by
        by_cases e : v < 9223372036854775807
        · rw [if_pos e] at hc; omega
        · rw [if_neg e, if_pos (by omega)] at hc; omega
      refine ⟨⟨by omega, by omega⟩, fun _ => ⟨⟨by omega, by omega⟩, ?_⟩, fun h => absurd this.1 h⟩
      obtain ⟨n, hn'⟩ : ∃ n : Nat, M2 164 r = n := ⟨(M2 164 r).toNat, by omega⟩
      rw [hn']
      refine neg_loop hr hv (hQ _ _ ⟨(hf.fm.mono (by simp) (by simp) (by simp)).tr FM.slot, ?_⟩) n 0 (by omega) ?_
      · rw [he, if_pos g]; exact ⟨u2_same, rfl⟩
      · have := hv.at_ (m := n) (by omega)
        rw [this]; simp
    · have : v1 = 1 := by rw [if_neg (by omega), if_neg (by omega)] at hc; exact hc
      refine ⟨⟨by omega, by omega⟩, fun h => absurd h (by omega), fun _ => ?_⟩
      refine (s_refuse (d := d)).cal fun v2 M3 hM3 => ?_
      obtain ⟨rfl, rfl⟩ := hM3
      refine ⟨⟨by decide, by decide⟩, hQ _ _ ⟨(hf.fm.mono (by simp) (by simp) (by simp)).tr FM.slot, ?_⟩⟩
      rw [he, if_neg g]; exact u2_same
  have K6 : ∀ (r : Nat) (v : Int) (o3 o4 o5 o6 : Option PV), r < 190 → Row M r v → (if b = 0 then q.num else (q.den : Int)) = v → L_M_result_6 (d + 1) Q M b (r : Int) o3 o4 o5 o6 := by
    intro r v o3 o4 o5 o6 hr hv he
    refine b_M_result_6 ?_
    refine (s_setRow (d := d) (r := 194) (j := 9223372036854775807) (by decide) (by decide) (by decide)).cal fun v1 M1 hM1 => ?_
    obtain ⟨f1, a1⟩ := hM1
    have K := fun o1 => K19 r v o1 o3 o4 o5 o6 M1 (by omega) (hv.kept f1 (by simp; omega)) he a1 (f1.fr (by simp))
    refine ⟨hb, fun _ => K _, fun _ => ?_⟩
    rw [f1.sg]
    exact ⟨⟨by omega, by omega⟩, fun _ => K _, fun h => absurd hs.1 h⟩
  refine e_M_result (b_M_result_0 ⟨hb, fun h => ?_, fun h => ?_⟩)
  · exact K6 160 q.num _ _ _ _ (by decide) q1 (by rw [if_pos h])
  · exact K6 161 q.den _ _ _ _ (by decide) q2 (by rw [if_neg h])
