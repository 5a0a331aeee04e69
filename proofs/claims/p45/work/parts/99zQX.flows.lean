/-! The law's flows. -/
theorem bitT : ∀ t, t < 8 → ∀ k, k < 3 → zand (((t : Nat) : Int) / 2 ^ k) 1 = if t.testBit k = true then 1 else 0 := by decide +kernel
abbrev h100 : Rat := 1 / ((100 : Int) : Rat)
theorem h100_ne : h100 ≠ 0 := fun z => by
  have h : ((100 : Int) : Rat) ≠ 0 := int_ne (by decide)
  unfold h100 at z
  generalize ((100 : Int) : Rat) = u at *
  grind
theorem div_100 {x : Int} : ((x : Int) : Rat) * h100 = ((x : Int) : Rat) / ((100 : Int) : Rat) := by
  unfold h100
  generalize ((x : Int) : Rat) = u
  generalize ((100 : Int) : Rat) = v
  grind
abbrev p25 (T : Nat → Nat → Int) : Nat → Nat → Int := fun a b => 25 * T a b
def flT (n : Nat) (cm sv : Nat → Int) (Tp : Nat → Nat → Int) (f : Nat → Bool) (a c : Nat) : Rat := ntQ n cm sv (p25 Tp) f a c * h100
/-- what the law is given: comings, services, ways -/
def nSm (n : Nat) (cm sv : Nat → Int) (Tp : Nat → Nat → Int) : Prop := (1 ≤ n ∧ n ≤ 3) ∧ (∀ i, i < n → 0 ≤ cm i ∧ cm i ≤ 8) ∧ (∀ i, i < n → 1 ≤ sv i ∧ sv i ≤ 12) ∧ ∀ i j, i < n → j < n → 0 ≤ Tp i j ∧ Tp i j ≤ 4
def kn (cm sv : Nat → Int) (Tp : Nat → Nat → Int) (f : Nat → Bool) (r : Nat) : Nat → Int
  | 0 => 4 * cm r
  | k + 1 => kn cm sv Tp f r k + (if f k = true then sv k * Tp k r else 0)
theorem kn_25 {cm sv : Nat → Int} {Tp : Nat → Nat → Int} {f : Nat → Bool} {r : Nat} : ∀ k, known cm sv (p25 Tp) f r k = 25 * kn cm sv Tp f r k
  | 0 => by show 100 * cm r = 25 * (4 * cm r); omega
  | k + 1 => by
    show known cm sv (p25 Tp) f r k + (if f k = true then sv k * (25 * Tp k r) else 0) = 25 * (kn cm sv Tp f r k + (if f k = true then sv k * Tp k r else 0))
    rw [kn_25 k, Int.mul_add]
    congr 1
    split
    · rw [Int.mul_left_comm]
    · rfl
theorem kn_r {n : Nat} {cm sv : Nat → Int} {Tp : Nat → Nat → Int} {f : Nat → Bool} {r : Nat} (h : nSm n cm sv Tp) (hr : r < n) : ∀ k, k ≤ n → 0 ≤ kn cm sv Tp f r k ∧ kn cm sv Tp f r k ≤ 32 + 48 * (k : Int)
  | 0, _ => by
    have := h.2.1 r hr
    show 0 ≤ 4 * cm r ∧ 4 * cm r ≤ _
    omega
  | k + 1, hk => by
    have h1 := kn_r (f := f) h hr k (by omega)
    have h2 := h.2.2.1 k (by omega)
    have h3 := h.2.2.2 k r (by omega) hr
    have p0 : 0 ≤ sv k * Tp k r := Int.mul_nonneg (by omega) (by omega)
    have p1 : sv k * Tp k r ≤ 12 * 4 := Int.mul_le_mul (by omega) (by omega) (by omega) (by decide)
    show 0 ≤ kn cm sv Tp f r k + (if f k = true then sv k * Tp k r else 0) ∧ kn cm sv Tp f r k + (if f k = true then sv k * Tp k r else 0) ≤ _
    split <;> omega
theorem x25 {z : Int} : (((25 * z : Int)) : Rat) * h100 * q4 = ((z : Int) : Rat) := by
  rw [div_100, Rat.intCast_mul]
  show ((25 : Int) : Rat) * ((z : Int) : Rat) / ((100 : Int) : Rat) * ((4 : Int) : Rat) = _
  have e : ((100 : Int) : Rat) = ((25 : Int) : Rat) * ((4 : Int) : Rat) := by decide +kernel
  have h1 : ((25 : Int) : Rat) ≠ 0 := int_ne (by decide)
  have h2 : ((4 : Int) : Rat) ≠ 0 := int_ne (by decide)
  rw [e]
  generalize ((25 : Int) : Rat) = a at *
  generalize ((4 : Int) : Rat) = b at *
  generalize ((z : Int) : Rat) = c
  grind
theorem flT_nT {n : Nat} {cm sv : Nat → Int} {Tp : Nat → Nat → Int} {f : Nat → Bool} (h : nSm n cm sv Tp) : nT (flT n cm sv Tp f) n := by
  have hn := h.1
  refine ⟨fun a c ha hc => ?_, fun a ha => ?_⟩
  · have h3 := h.2.2.2 c a hc ha
    have e0 : p25 Tp c a = 25 * Tp c a := rfl
    have e : ((if a = c then 100 else 0) - (if f c = true then 0 else p25 Tp c a) : Int) = 25 * ((if a = c then 4 else 0) - (if f c = true then 0 else Tp c a)) := by
      rw [e0]
      split <;> split <;> omega
    refine ⟨(if a = c then 4 else 0) - (if f c = true then 0 else Tp c a), ?_, ?_⟩
    · unfold flT ntQ ntN
      rw [if_neg (by omega), e, x25]
    · constructor <;> (split <;> split <;> omega)
  · have h3 := kn_r (f := f) h ha n (Nat.le_refl n)
    refine ⟨kn cm sv Tp f a n, ?_, by omega, by omega⟩
    unfold flT ntQ ntN
    rw [if_pos rfl, kn_25, x25]
theorem flT_D {n : Nat} {cm sv : Nat → Int} {Tp : Nat → Nat → Int} {f : Nat → Bool} (h : ∀ j, j ≤ n → 0 < Dd (ntQ n cm sv (p25 Tp) f) j) : ∀ j, j ≤ n → Dd (flT n cm sv Tp f) j ≠ 0 := fun j hj z => by
  have h1 := h j hj
  have e : Dd (ntQ n cm sv (p25 Tp) f) j * h100 ^ j = Dd (flT n cm sv Tp f) j := wed_D j _
  rw [z] at e
  rcases Rat.mul_eq_zero.mp e with q | q
  · rw [q] at h1
    exact absurd h1 (by decide)
  · have : ∀ k : Nat, h100 ^ k ≠ 0 := fun k => by
      induction k with
      | zero => rw [Rat.pow_zero]; decide
      | succ k ih =>
        rw [Rat.pow_succ]
        intro w
        rcases Rat.mul_eq_zero.mp w with y | y
        · exact ih y
        · exact h100_ne y
    exact this j q
theorem flT_ans {n i : Nat} {cm sv : Nat → Int} {Tp : Nat → Nat → Int} {f : Nat → Bool} : ansQ (flT n cm sv Tp f) n i = nsQ n cm sv (p25 Tp) f i := by
  have hp : ∀ k : Nat, h100 ^ k ≠ 0 := fun k => by
    induction k with
    | zero => rw [Rat.pow_zero]; decide
    | succ k ih =>
      rw [Rat.pow_succ]
      intro w
      rcases Rat.mul_eq_zero.mp w with y | y
      · exact ih y
      · exact h100_ne y
  have e1 : Dd (ntQ n cm sv (p25 Tp) f) n * h100 ^ n = Dd (flT n cm sv Tp f) n := wed_D n _
  have e2 : wed n (colR (ntQ n cm sv (p25 Tp) f) (fc i n)) n (full n) * h100 ^ n = wed n (colR (flT n cm sv Tp f) (fc i n)) n (full n) := wed_D n _
  show wed n (colR (flT n cm sv Tp f) (fc i n)) n (full n) / Dd (flT n cm sv Tp f) n = wed n (colR (ntQ n cm sv (p25 Tp) f) (fc i n)) n (full n) / Dd (ntQ n cm sv (p25 Tp) f) n
  rw [← e1, ← e2]
  have := hp n
  generalize h100 ^ n = x at *
  generalize wed n (colR (ntQ n cm sv (p25 Tp) f) (fc i n)) n (full n) = y
  generalize Dd (ntQ n cm sv (p25 Tp) f) n = z
  by_cases e : z = 0
  · rw [e]
    grind
  · grind
/-- the law's rows of a net -/
def NTq (C : LMem) (r4 r5 r6 n : Nat) (Pp : Nat → Nat) (cm sv : Nat → Int) (Tp : Nat → Nat → Int) : Prop := (∃ f, C r4 = (1, n, f) ∧ ∀ i, i < n → f i = cm i) ∧ (∃ f, C r5 = (1, n, f) ∧ ∀ i, i < n → f i = sv i) ∧ MxQ 3 0 C r6 n n Pp Tp
theorem NTq.off {C C' : LMem} {r4 r5 r6 n : Nat} {Pp : Nat → Nat} {cm sv : Nat → Int} {Tp : Nat → Nat → Int} (h : NTq C r4 r5 r6 n Pp cm sv Tp) (hf : LF [] C C') : NTq C' r4 r5 r6 n Pp cm sv Tp := by
  obtain ⟨⟨f, f1, f2⟩, ⟨g, g1, g2⟩, h3⟩ := h
  exact ⟨⟨f, hf.at' (k := 0) zzL f1, f2⟩, ⟨g, hf.at' (k := 0) zzL g1, g2⟩, h3.off0 hf⟩
theorem NTq.oth {C : LMem} {r4 r5 r6 n z mz : Nat} {Pp : Nat → Nat} {cm sv : Nat → Int} {Tp : Nat → Nat → Int} {g : Nat → Int} {x : LCel} (h : NTq C r4 r5 r6 n Pp cm sv Tp) (hz : C z = (6, mz, g)) : NTq (cst C z x) r4 r5 r6 n Pp cm sv Tp := by
  obtain ⟨⟨f, f1, f2⟩, ⟨g2, g3, g4⟩, h3⟩ := h
  have ne : ∀ {y : Nat} {w : Nat → Int}, C y = (1, n, w) → y ≠ z := fun {y w} hy e => by
    rw [e, hz] at hy
    have h9 : (6 : Nat) = 1 := congrArg (fun x : LCel => x.1) hy
    omega
  exact ⟨⟨f, by rw [cst_ne (ne f1)]; exact f1, f2⟩, ⟨g2, by rw [cst_ne (ne g3)]; exact g3, g4⟩, h3.okd (k' := 5) hz (by decide) (by decide)⟩
def flD (i k n : Nat) : Nat → Nat → Prop := fun a c => a < i ∨ (a = i ∧ (c < k ∨ c = n))
def flX (T : Nat → Nat → Rat) (i n : Nat) (x : Rat) : Nat → Nat → Rat := fun a c => if a = i ∧ c = n then x else T a c
section FLO
variable {d : Nat} {Q : LQ} {M : Mem} {C0 : LMem} {r r4 r5 r6 n : Nat} {P Pp : Nat → Nat} {cm sv : Nat → Int} {Tp : Nat → Nat → Int} {t : Nat}
abbrev fT (t : Nat) : Nat → Bool := fun k => !(t.testBit k)
theorem fl_24 (h : nSm n cm sv Tp) (ht : t < 8) (hF : MxF C0 r n P) {i kc0 : Nat} (hi : i < n) (hkc0 : kc0 ≤ 400)
    (hN : ∀ (C : LMem) (kc' : Nat) (o7 : Option PV), kc' ≤ kc0 + 9 → LF [] C0 C → NTq C r4 r5 r6 n Pp cm sv Tp → MRq C r n (n + 1) P (fun a _ => a < i + 1) (flT n cm sv Tp (fT t)) → L_W_flows_8 (d + 130) Q M C kc' r4 r5 r6 (n : Int) (t : Int) r ((i : Int) + 1) o7) :
    ∀ (u k : Nat) (C : LMem) (kc : Nat), k + u = n → kc + 3 * u ≤ kc0 + 9 → LF [] C0 C → NTq C r4 r5 r6 n Pp cm sv Tp → MRq C r n (n + 1) P (flD i k n) (flX (flT n cm sv Tp (fT t)) i n (((known cm sv (p25 Tp) (fT t) i k : Int) : Rat) * h100)) → L_W_flows_24 (d + 130) Q M C kc r4 r5 r6 (n : Int) (t : Int) r (i : Int) (k : Int) := by
  have hn := h.1
  intro u
  induction u with
  | zero =>
    intro k C kc hk hkc hl hT hM
    obtain rfl : k = n := by omega
    refine b_W_flows_24 ⟨⟨by omega, by omega⟩, ⟨by omega, by omega⟩, fun _ => hN C kc _ (by omega) hl hT (hM.cg fun a c ha hc w => ⟨?_, ?_⟩), fun z => absurd (Int.le_refl _) z⟩
    · by_cases e : a = i
      · exact Or.inr ⟨e, by omega⟩
      · exact Or.inl (by omega)
    · unfold flX
      by_cases e : a = i ∧ c = k
      · rw [if_pos e, e.1, e.2]
        unfold flT ntQ ntN
        rw [if_pos rfl]
      · rw [if_neg e]
  | succ u ih =>
    intro k C kc hk hkc hl hT hM
    have hk9 : k < n := by omega
    have hne : k ≠ n := by omega
    have hsv := h.2.2.1 k hk9
    have htp := h.2.2.2 k i hk9 hi
    have hkn := kn_r (f := fT t) h hi k (by omega)
    -- behind the first fraction of the place
    have l40 : ∀ (C : LMem) (K p : Nat), K ≤ kc + 1 → LF [] C0 C → NTq C r4 r5 r6 n Pp cm sv Tp → MRq C r n (n + 1) P (flD i (k + 1) n) (upX (flX (flT n cm sv Tp (fT t)) i n (((known cm sv (p25 Tp) (fT t) i k : Int) : Rat) * h100)) i k (if i = k then 1 else 0)) → L_W_flows_40 (d + 130) Q M C K r4 r5 r6 (n : Int) (t : Int) r (i : Int) (k : Int) := by
      intro C K p hK hl hT hM
      obtain ⟨⟨f4, a1, a2⟩, ⟨f5, b1, b2⟩, ⟨f6, c1, c2⟩, c3, -⟩ := id hT
      obtain ⟨gp, d1, d2⟩ := c3 k hk9
      obtain ⟨⟨f, f1, f2⟩, m2, m3⟩ := id hM
      obtain ⟨gi, g1, g2⟩ := m2 i hi
      obtain ⟨pk, e1, e2⟩ := g2 k (by omega) (Or.inr ⟨rfl, Or.inl (by omega)⟩)
      obtain ⟨pn, e3, e4⟩ := g2 n (by omega) (Or.inr ⟨rfl, Or.inr rfl⟩)
      have v1 : upX (flX (flT n cm sv Tp (fT t)) i n (((known cm sv (p25 Tp) (fT t) i k : Int) : Rat) * h100)) i k (if i = k then 1 else 0) i k = if i = k then 1 else 0 := if_pos ⟨rfl, rfl⟩
      have v2 : upX (flX (flT n cm sv Tp (fT t)) i n (((known cm sv (p25 Tp) (fT t) i k : Int) : Rat) * h100)) i k (if i = k then 1 else 0) i n = ((known cm sv (p25 Tp) (fT t) i k : Int) : Rat) * h100 := by
        unfold upX flX
        rw [if_neg (fun z => hne z.2.symm), if_pos ⟨rfl, rfl⟩]
      rw [v1] at e2
      rw [v2] at e4
      have B1 : Bq (if i = k then (1 : Rat) else 0) 1 1 := by
        split
        · exact ⟨by decide, by decide⟩
        · exact ⟨by decide, by decide⟩
      have B2 : Bq (((known cm sv (p25 Tp) (fT t) i k : Int) : Rat) * h100) 4400 100 := by
        rw [div_100]
        refine (Bq_div (by decide)).mono ?_ (by decide)
        rw [kn_25]
        omega
      have hbt := bitT t ht k (by omega)
      refine b_W_flows_40 ?_
      simp only [f1, f2 i hi, a1, b1, b2 k hk9, c1, c2 k hk9, d1, d2 i hi, Int.toNat_natCast, cellAt, g1, e1, e3, hbt]
      have hb32 : R32 (if t.testBit k = true then (1 : Int) else 0) := by split <;> exact ⟨by decide, by decide⟩
      refine ⟨⟨by omega, by omega⟩, ⟨by omega, by omega⟩, hb32, fun z => ?_, fun z => ?_⟩
      · have hf : fT t k = true := by
          show (!(t.testBit k)) = true
          cases hb : t.testBit k
          · rfl
          · rw [hb] at z; exact absurd rfl z
        have p0 : 0 ≤ Tp k i * sv k := Int.mul_nonneg (by omega) (by omega)
        have p1 : Tp k i * sv k ≤ 4 * 12 := Int.mul_le_mul (by omega) (by omega) (by omega) (by decide)
        refine ⟨⟨by decide, by decide⟩, ⟨by omega, by omega⟩, ⟨by decide, by decide⟩, ⟨by omega, by omega⟩, ⟨by decide, by decide⟩, ⟨by omega, by omega⟩, trivial, ⟨by omega, by omega⟩, ⟨by omega, by omega⟩, trivial, ⟨by omega, by omega⟩, ⟨by omega, by omega⟩, by omega, ?_⟩
        refine s_of (d := d + 2) (by unfold A63; omega) (by unfold A63; omega) (by decide) _ ?_
        rintro w1 M1 C1 ⟨rfl, q1, rfl, -, l1, h1⟩
        have B3 : Bq ((((Tp k i * sv k : Int)) : Rat) / ((4 : Int) : Rat)) 48 4 := (Bq_div (by decide)).mono (by omega) (by decide)
        refine ⟨by omega, ?_⟩
        rw [Int.toNat_natCast]
        refine s_sum (d := d + 1) (e4.kept l1 zzL) h1 (B2.okS B3 (by decide) (by decide)) _ ?_
        rintro w2 M2 C2 ⟨rfl, q2, rfl, -, l2, h2⟩
        have L := l1.tr l2
        have g1' := L.at' (k := 5) zzL g1
        obtain ⟨gg, y1, y2, y3⟩ := id h2
        simp only [cellAt, g1', codeOk, elK, y1, cup_of g1', Int.toNat_natCast]
        refine ⟨⟨by decide, by decide⟩, ⟨by omega, by omega⟩, trivial, ?_⟩
        have hM' := (hM.off L).set (j := n) hi g1' h2
        rw [show (k : Int) + 1 = ((k + 1 : Nat) : Int) by omega]
        refine ih (k + 1) _ _ (by omega) (by omega) ((hl.tr L).set (hF.2 i hi)) ((hT.off L).oth g1') (hM'.cg fun a c ha hc w => ⟨Or.inl w, ?_⟩)
        unfold upX flX
        by_cases y : a = i ∧ c = n
        · rw [if_pos y, if_pos y]
          show _ = ((known cm sv (p25 Tp) (fT t) i k + (if fT t k = true then sv k * (25 * Tp k i) else 0) : Int) : Rat) * h100
          rw [if_pos hf, Rat.intCast_add, show sv k * (25 * Tp k i) = 25 * (Tp k i * sv k) by rw [Int.mul_left_comm, Int.mul_comm (sv k)]]
          have e9 : ((25 * (Tp k i * sv k) : Int) : Rat) * h100 = ((Tp k i * sv k : Int) : Rat) / ((4 : Int) : Rat) := by
            have := x25 (z := Tp k i * sv k)
            have h4 := q4_ne
            rw [← this]
            generalize ((25 * (Tp k i * sv k) : Int) : Rat) * h100 = x
            show x = x * q4 / q4
            generalize q4 = y at *
            grind
          rw [← e9]
          generalize ((25 * (Tp k i * sv k) : Int) : Rat) = x
          generalize ((known cm sv (p25 Tp) (fT t) i k : Int) : Rat) = y
          generalize h100 = z
          grind
        · simp only [if_neg y]
          by_cases y2 : a = i ∧ c = k
          · rw [if_pos y2, y2.1, y2.2]
            unfold flT ntQ ntN
            rw [if_neg hne, if_pos hf, Int.sub_zero]
            split
            · rw [div_100]; decide +kernel
            · rw [div_100]; decide +kernel
          · rw [if_neg y2]
      · have hf : fT t k = false := by
          show (!(t.testBit k)) = false
          cases hb : t.testBit k
          · rw [hb] at z; exact absurd (by decide) z
          · rfl
        refine ⟨⟨by decide, by decide⟩, ⟨by omega, by omega⟩, ⟨by decide, by decide⟩, ⟨by omega, by omega⟩, ⟨by decide, by decide⟩, ⟨by omega, by omega⟩, trivial, ⟨by omega, by omega⟩, ⟨by omega, by omega⟩, by omega, ?_⟩
        refine s_of (d := d + 2) (by unfold A63; omega) (by unfold A63; omega) (by decide) _ ?_
        rintro w1 M1 C1 ⟨rfl, q1, rfl, -, l1, h1⟩
        have B3 : Bq ((((-Tp k i : Int)) : Rat) / ((4 : Int) : Rat)) 4 4 := (Bq_div (by decide)).mono (by omega) (by decide)
        refine ⟨by omega, ?_⟩
        rw [Int.toNat_natCast]
        refine s_sum (d := d + 1) (e2.kept l1 zzL) h1 (B1.okS B3 (by decide) (by decide)) _ ?_
        rintro w2 M2 C2 ⟨rfl, q2, rfl, -, l2, h2⟩
        have L := l1.tr l2
        have g1' := L.at' (k := 5) zzL g1
        obtain ⟨gg, y1, y2, y3⟩ := id h2
        simp only [cellAt, g1', codeOk, elK, y1, cup_of g1', Int.toNat_natCast]
        refine ⟨⟨by decide, by decide⟩, ⟨by omega, by omega⟩, trivial, ?_⟩
        have hM' := (hM.off L).set (j := k) hi g1' h2
        rw [show (k : Int) + 1 = ((k + 1 : Nat) : Int) by omega]
        refine ih (k + 1) _ _ (by omega) (by omega) ((hl.tr L).set (hF.2 i hi)) ((hT.off L).oth g1') (hM'.cg fun a c ha hc w => ⟨Or.inl w, ?_⟩)
        unfold upX flX
        by_cases y : a = i ∧ c = n
        · rw [if_neg (fun w => hne (w.2.symm.trans y.2)), if_neg (fun w => hne (w.2.symm.trans y.2)), if_pos y, if_pos y]
          show _ = ((known cm sv (p25 Tp) (fT t) i k + (if fT t k = true then sv k * (25 * Tp k i) else 0) : Int) : Rat) * h100
          rw [hf, if_neg (by decide), Int.add_zero]
        · by_cases y2 : a = i ∧ c = k
          · rw [if_pos y2, if_neg y, y2.1, y2.2]
            unfold flT ntQ ntN
            rw [if_neg hne, hf, if_neg (show ¬ (false = true) by decide)]
            have e9 : ((25 * (Tp k i) : Int) : Rat) * h100 = ((Tp k i : Int) : Rat) / ((4 : Int) : Rat) := by
              have := x25 (z := Tp k i)
              have h4 := q4_ne
              rw [← this]
              generalize ((25 * (Tp k i) : Int) : Rat) * h100 = x
              show x = x * q4 / q4
              generalize q4 = y at *
              grind
            have e8 : (((if i = k then 100 else 0) - p25 Tp k i : Int) : Rat) * h100 = (if i = k then 1 else 0) - ((25 * (Tp k i) : Int) : Rat) * h100 := by
              rw [Rat.intCast_sub]
              have e7 : (((if i = k then 100 else 0 : Int)) : Rat) * h100 = if i = k then 1 else 0 := by
                split
                · rw [div_100]; decide +kernel
                · rw [div_100]; decide +kernel
              rw [← e7]
              generalize (((if i = k then 100 else 0 : Int)) : Rat) = x
              show (x - ((25 * (Tp k i) : Int) : Rat)) * h100 = _
              generalize ((25 * (Tp k i) : Int) : Rat) = y
              generalize h100 = z
              grind
            rw [e8, e9, Rat.intCast_neg]
            generalize (if i = k then (1 : Rat) else 0) = x
            generalize ((Tp k i : Int) : Rat) = y
            generalize ((4 : Int) : Rat) = z
            grind
          · rw [if_neg y2, if_neg y2, if_neg y, if_neg y]
    obtain ⟨⟨f, f1, f2⟩, m2, m3⟩ := id hM
    obtain ⟨gi, g1, g2⟩ := m2 i hi
    have go : ∀ (C1 : LMem) (q1 : Nat), LF [] C C1 → FL C1 q1 (if i = k then 1 else 0) → L_W_flows_40 (d + 130) Q M (cst C1 (P i) (6, n + 1, sr gi k ((q1 + 1 : Nat) : Int))) (kc + 1) r4 r5 r6 (n : Int) (t : Int) r (i : Int) (k : Int) := by
      intro C1 q1 L h1
      have g1' := L.at' (k := 5) zzL g1
      refine l40 _ _ 0 (by omega) ((hl.tr L).set (hF.2 i hi)) ((hT.off L).oth g1') (((hM.off L).set (j := k) hi g1' h1).cg fun a c ha hc w => ⟨?_, rfl⟩)
      rcases w with w | ⟨w1, w2 | w2⟩
      · exact Or.inl (Or.inl w)
      · by_cases y : c = k
        · exact Or.inr ⟨w1, y⟩
        · exact Or.inl (Or.inr ⟨w1, Or.inl (by omega)⟩)
      · exact Or.inl (Or.inr ⟨w1, Or.inr w2⟩)
    refine b_W_flows_24 ⟨⟨by omega, by omega⟩, ⟨by omega, by omega⟩, fun z => absurd z (by omega), fun _ => ?_⟩
    simp only [f1, f2 i hi, Int.toNat_natCast, cellAt]
    refine ⟨⟨by decide, by decide⟩, ⟨by omega, by omega⟩, ⟨by omega, by omega⟩, fun z => ⟨by omega, ?_⟩, fun z => ⟨by omega, ?_⟩⟩
    · refine s_of (d := d + 2) (by unfold A63; decide) (by unfold A63; decide) (by decide) _ ?_
      rintro w1 M1 C1 ⟨rfl, q1, rfl, -, l1, h1⟩
      have g1' := l1.at' (k := 5) zzL g1
      have e0 : ((0 : Int) : Rat) / ((1 : Int) : Rat) = if i = k then 1 else 0 := by
        rw [if_neg (by omega)]; decide +kernel
      rw [e0] at h1
      obtain ⟨gg, y1, y2, y3⟩ := id h1
      simp only [cellAt, g1', codeOk, elK, y1, cup_of g1', Int.toNat_natCast]
      exact ⟨⟨by decide, by decide⟩, ⟨by omega, by omega⟩, trivial, go C1 q1 l1 h1⟩
    · refine s_of (d := d + 2) (by unfold A63; decide) (by unfold A63; decide) (by decide) _ ?_
      rintro w1 M1 C1 ⟨rfl, q1, rfl, -, l1, h1⟩
      have g1' := l1.at' (k := 5) zzL g1
      have e0 : ((1 : Int) : Rat) / ((1 : Int) : Rat) = if i = k then 1 else 0 := by
        rw [if_pos (by omega)]; decide +kernel
      rw [e0] at h1
      obtain ⟨gg, y1, y2, y3⟩ := id h1
      simp only [cellAt, g1', codeOk, elK, y1, cup_of g1', Int.toNat_natCast]
      exact ⟨⟨by decide, by decide⟩, ⟨by omega, by omega⟩, trivial, go C1 q1 l1 h1⟩
theorem fl_8 (h : nSm n cm sv Tp) (ht : t < 8) (hF : MxF C0 r n P)
    (hN : ∀ (C : LMem) (kc' : Nat) (o7 : Option PV), kc' ≤ 60 → LF [] C0 C → NTq C r4 r5 r6 n Pp cm sv Tp → MRq C r n (n + 1) P dT (flT n cm sv Tp (fT t)) → L_W_flows_8 (d + 130) Q M C kc' r4 r5 r6 (n : Int) (t : Int) r (n : Int) o7) :
    ∀ (u i : Nat) (C : LMem) (kc : Nat) (o7 : Option PV), i + u = n → kc + 12 * u ≤ 60 → LF [] C0 C → NTq C r4 r5 r6 n Pp cm sv Tp → MRq C r n (n + 1) P (fun a _ => a < i) (flT n cm sv Tp (fT t)) → L_W_flows_8 (d + 130) Q M C kc r4 r5 r6 (n : Int) (t : Int) r (i : Int) o7 := by
  have hn := h.1
  intro u
  induction u with
  | zero =>
    intro i C kc o7 hi hkc hl hT hM
    obtain rfl : i = n := by omega
    exact hN C kc _ (by omega) hl hT (hM.cg fun a c ha hc w => ⟨ha, rfl⟩)
  | succ u ih =>
    intro i C kc o7 hi hkc hl hT hM
    have hi9 : i < n := by omega
    have hcm := h.2.1 i hi9
    obtain ⟨⟨f4, a1, a2⟩, -, -⟩ := id hT
    obtain ⟨⟨f, f1, f2⟩, m2, m3⟩ := id hM
    obtain ⟨gi, g1, g2⟩ := m2 i hi9
    refine b_W_flows_8 ⟨⟨by omega, by omega⟩, ⟨by omega, by omega⟩, fun z => absurd z (by omega), fun _ => ?_⟩
    simp only [f1, f2 i hi9, a1, a2 i hi9, Int.toNat_natCast, cellAt]
    refine ⟨⟨by decide, by decide⟩, ⟨by omega, by omega⟩, trivial, ⟨by omega, by omega⟩, ⟨by omega, by omega⟩, by omega, ?_⟩
    refine s_of (d := d + 2) (by unfold A63; omega) (by unfold A63; decide) (by decide) _ ?_
    rintro w1 M1 C1 ⟨rfl, q1, rfl, -, l1, h1⟩
    have g1' := l1.at' (k := 5) zzL g1
    have e0 : ((cm i : Int) : Rat) / ((1 : Int) : Rat) = ((known cm sv (p25 Tp) (fT t) i 0 : Int) : Rat) * h100 := by
      show _ = ((100 * cm i : Int) : Rat) * h100
      rw [div_100, Rat.intCast_mul]
      have h4 : ((100 : Int) : Rat) ≠ 0 := int_ne (by decide)
      have e1 : ((1 : Int) : Rat) = 1 := rfl
      rw [e1]
      generalize ((100 : Int) : Rat) = x at *
      generalize ((cm i : Int) : Rat) = y
      grind
    rw [e0] at h1
    obtain ⟨gg, y1, y2, y3⟩ := id h1
    simp only [cellAt, g1', codeOk, elK, y1, cup_of g1', Int.toNat_natCast]
    refine ⟨⟨by decide, by decide⟩, ⟨by omega, by omega⟩, trivial, ?_⟩
    refine fl_24 (kc0 := kc + 1) h ht hF hi9 (by omega) (fun C' kc' o7 z1 z2 z3 z4 => ?_) n 0 _ _ (by omega) (by omega) ((hl.tr l1).set (hF.2 i hi9)) ((hT.off l1).oth g1') (((hM.off l1).set (j := n) hi9 g1' h1).cg fun a c ha hc w => ⟨?_, ?_⟩)
    · rw [show (i : Int) + 1 = ((i + 1 : Nat) : Int) by omega]
      exact ih (i + 1) C' kc' _ (by omega) (by omega) z2 z3 z4
    · rcases w with w | ⟨w1, w2 | w2⟩
      · exact Or.inl w
      · exact absurd w2 (Nat.not_lt_zero c)
      · exact Or.inr ⟨w1, w2⟩
    · rfl
theorem s_flows {C : LMem} (h : nSm n cm sv Tp) (ht : t < 8) (hD : ∀ j, j ≤ n → 0 < Dd (ntQ n cm sv (p25 Tp) (fT t)) j) (hT : NTq C r4 r5 r6 n Pp cm sv Tp) : LPo (d + 131) cW_flows [.inr (.inr (.inl (r4 + 1))), .inr (.inr (.inl (r5 + 1))), .inr (.inr (.inl (r6 + 1))), .inl (n : Int), .inl (t : Int)] M C (fun v m c => m = M ∧ ∃ q R, v = ((q + 1 : Nat) : Int) ∧ LF [] C c ∧ (C q).1 = 0 ∧ VQ c q n n R (nsQ n cm sv (p25 Tp) (fT t))) := fun Q hQ => by
  have hn := h.1
  refine e_W_flows (b_W_flows_0 ⟨⟨by omega, by omega⟩, ⟨by omega, by omega⟩, by omega, fun q hq => ?_⟩)
  rw [show ((n : Int) + 1).toNat = n + 1 by omega]
  rw [Int.toNat_natCast] at hq ⊢
  have hF : MxF C q n (fun i => q + 1 + i) := ⟨by have := hq 0 (Nat.zero_le n); rw [Nat.add_zero] at this; exact this, fun i hi => by have := hq (i + 1) (by omega); rw [show q + (i + 1) = q + 1 + i by omega] at this; exact this⟩
  have hl : LF [] C (cmn C q n 7 6 (n + 1)) := LF.rf.mkn hq
  refine fl_8 (Q := Q) h ht hF (fun C' kc' o7 z1 z2 z3 z4 => ?_) n 0 _ _ _ (by omega) (by omega) hl (hT.off hl) ((MRq.mk (X := flT n cm sv Tp (fT t)) hq).cg fun a c _ _ w => absurd w (Nat.not_lt_zero a))
  refine b_W_flows_8 ⟨⟨by omega, by omega⟩, ⟨by omega, by omega⟩, fun _ => ⟨by omega, ?_⟩, fun z => absurd (Int.le_refl _) z⟩
  refine s_solves (d := d) hn.2 (flT_nT h) (flT_D hD) hF z2 z4 _ ?_
  rintro v m c ⟨rfl, p, R, rfl, l9, hp, hV⟩
  refine hQ _ _ _ ⟨rfl, p, R, by rw [Int.toNat_natCast], l9, hp, ?_⟩
  obtain ⟨f, h1, h2⟩ := hV
  exact ⟨f, h1, fun i hi => by rw [← flT_ans (f := fT t)]; exact h2 i hi⟩
end FLO
