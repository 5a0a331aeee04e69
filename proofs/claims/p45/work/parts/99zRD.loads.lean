/-! isClosedNet: the loads. -/
theorem VQ.up {C : LMem} {q n k : Nat} {R : Nat → Nat} {w : Nat → Rat} {x : Rat} {q' : Nat} {f : Nat → Int} (h : VQ C q n n R w) (hq : C q = (6, n, f)) (hx : FL C q' x) : VQ (cst C q (6, n, sr f k ((q' + 1 : Nat) : Int))) q n n (fun i => if i = k then q' else R i) (fun i => if i = k then x else w i) := by
  obtain ⟨f', h1, h2⟩ := h
  have ef : f' = f := by rw [h1] at hq; exact congrArg (fun x : LCel => x.2.2) hq
  refine ⟨_, cst_self, fun i hi => ?_⟩
  show sr f k _ i = (((if i = k then q' else R i) + 1 : Nat) : Int) ∧ FL _ (if i = k then q' else R i) (if i = k then x else w i)
  by_cases e : i = k
  · rw [if_pos e, if_pos e, e, sr_same]
    exact ⟨rfl, hx.oth hq (by decide)⟩
  · rw [if_neg e, if_neg e, sr_ne e, ← ef]
    obtain ⟨a1, a2⟩ := h2 i hi
    rw [ef]
    exact ⟨by rw [← ef]; exact a1, a2.oth hq (by decide)⟩
theorem x25' {z : Int} : mkRat (25 * z) 100 = ((z : Int) : Rat) / ((4 : Int) : Rat) := by
  have h := x25 (z := z)
  rw [div_100] at h
  rw [mk100]
  show (((25 * z : Int)) : Rat) / ((100 : Int) : Rat) = _
  rw [← h]
  have h4 := q4_ne
  generalize (((25 * z : Int)) : Rat) / ((100 : Int) : Rat) = x
  show x = x * q4 / q4
  generalize q4 = y at *
  grind
theorem clT_rc {n r c : Nat} {A Tp : Nat → Nat → Int} (hA : ∀ i j, i < n → j < n → A i j = 25 * Tp i j) (h0 : r ≠ 0) (hr : r < n) (hc : c < n) : clT n A r c = ((((if r = c then 4 else 0) - Tp c r : Int)) : Rat) / ((4 : Int) : Rat) := by
  unfold clT
  rw [if_neg (by omega), if_neg h0, ← x25', hA c r hc hr]
  congr 1
  split <;> omega
theorem clT_0 {n c : Nat} {A : Nat → Nat → Int} (hc : c < n) : clT n A 0 c = if c = 0 then 1 else 0 := by
  unfold clT
  rw [if_neg (by omega), if_pos rfl]
theorem clT_n {n r : Nat} {A : Nat → Nat → Int} : clT n A r n = if r = 0 then 1 else 0 := by
  unfold clT
  rw [if_pos rfl]
theorem clT_nT {n : Nat} {A Tp : Nat → Nat → Int} (hA : ∀ i j, i < n → j < n → A i j = 25 * Tp i j) (hT : ∀ i j, i < n → j < n → 0 ≤ Tp i j ∧ Tp i j ≤ 4) : nT (clT n A) n := by
  have w1 : ∀ β : Int, 4 ≤ β → Wh ((1 : Rat) * q4) β := fun β hb => ⟨4, by
    show (1 : Rat) * ((4 : Int) : Rat) = _
    generalize ((4 : Int) : Rat) = y
    grind, by omega, by omega⟩
  have w0 : ∀ β : Int, 4 ≤ β → Wh ((0 : Rat) * q4) β := fun β hb => ⟨0, by
    show (0 : Rat) * ((4 : Int) : Rat) = ((0 : Int) : Rat)
    have e : ((0 : Int) : Rat) = 0 := rfl
    rw [e]
    generalize ((4 : Int) : Rat) = y
    grind, by omega, by omega⟩
  refine ⟨fun a c ha hc => ?_, fun a ha => ?_⟩
  · by_cases e : a = 0
    · rw [e, clT_0 hc]
      by_cases z : c = 0
      · rw [if_pos z]; exact w1 4 (by omega)
      · rw [if_neg z]; exact w0 4 (by omega)
    · rw [clT_rc hA e ha hc]
      have := hT c a hc ha
      refine ⟨(if a = c then 4 else 0) - Tp c a, ?_, ?_⟩
      · have h4 := q4_ne
        generalize (((if a = c then 4 else 0) - Tp c a : Int) : Rat) = x
        show x / q4 * q4 = x
        generalize q4 = y at *
        grind
      · constructor <;> (split <;> omega)
  · rw [clT_n]
    by_cases z : a = 0
    · rw [if_pos z]; exact w1 176 (by omega)
    · rw [if_neg z]; exact w0 176 (by omega)
section CLB
variable {d : Nat} {Q : LQ} {M : Mem} {C2 : LMem} {r4 r5 r6 r9 n : Nat} {P Pp : Nat → Nat} {cm sv : Nat → Int} {Tp A : Nat → Nat → Int} {o1 o2 o6 o7 : Option PV} {i8 : Int}
theorem cl_160 (hn : 1 ≤ n ∧ n ≤ 3) (hA : ∀ i j, i < n → j < n → A i j = 25 * Tp i j) (hT : ∀ i j, i < n → j < n → 0 ≤ Tp i j ∧ Tp i j ≤ 4) (hF : MxF C2 r9 n P) {i kc0 : Nat} (hi : i < n) (hkc0 : kc0 ≤ 1000)
    (hN : ∀ (C : LMem) (kc' : Nat) (o11 : Option PV), kc' ≤ kc0 + 3 → LF [] C2 C → NTq C r4 r5 r6 n Pp cm sv Tp → MRq C r9 n (n + 1) P (fun a _ => a < i + 1) (clT n A) → L_W_isClosedNet_143 (d + 131) Q M C kc' o1 o2 r5 r6 (n : Int) o6 o7 i8 r9 ((i : Int) + 1) o11 none none none none) :
    ∀ (u k : Nat) (C : LMem) (kc : Nat), k + u = n → kc + u ≤ kc0 + 3 → LF [] C2 C → NTq C r4 r5 r6 n Pp cm sv Tp → MRq C r9 n (n + 1) P (flD i k n) (clT n A) → L_W_isClosedNet_160 (d + 131) Q M C kc o1 o2 r5 r6 (n : Int) o6 o7 i8 r9 (i : Int) (k : Int) none none none none := by
  intro u
  induction u with
  | zero =>
    intro k C kc hk hkc hl hT9 hM
    obtain rfl : k = n := by omega
    refine b_W_isClosedNet_160 ⟨⟨by omega, by omega⟩, ⟨by omega, by omega⟩, fun _ => hN C kc _ (by omega) hl hT9 (hM.cg fun a c ha hc w => ⟨?_, rfl⟩), fun z => absurd (Int.le_refl _) z⟩
    by_cases e : a = i
    · exact Or.inr ⟨e, by omega⟩
    · exact Or.inl (by omega)
  | succ u ih =>
    intro k C kc hk hkc hl hT9 hM
    have hk9 : k < n := by omega
    have htp := hT k i hk9 hi
    obtain ⟨-, -, ⟨⟨f6, c1, c2⟩, c3, -⟩⟩ := id hT9
    obtain ⟨gp, d1, d2⟩ := c3 k hk9
    obtain ⟨⟨f, f1, f2⟩, m2, m3⟩ := id hM
    obtain ⟨gi, g1, g2⟩ := m2 i hi
    have go : ∀ (C1 : LMem) (q1 : Nat), LF [] C C1 → FL C1 q1 (clT n A i k) → L_W_isClosedNet_160 (d + 131) Q M (cst C1 (P i) (6, n + 1, sr gi k ((q1 + 1 : Nat) : Int))) (kc + 1) o1 o2 r5 r6 (n : Int) o6 o7 i8 r9 (i : Int) ((k : Int) + 1) none none none none := by
      intro C1 q1 L h1
      have g1' := L.at' (k := 5) zzL g1
      rw [show (k : Int) + 1 = ((k + 1 : Nat) : Int) by omega]
      refine ih (k + 1) _ _ (by omega) (by omega) ((hl.tr L).set (hF.2 i hi)) ((hT9.off L).oth g1') (((hM.off L).set (j := k) hi g1' h1).cg fun a c ha hc w => ⟨?_, ?_⟩)
      · rcases w with w | ⟨w1, w2 | w2⟩
        · exact Or.inl (Or.inl w)
        · by_cases y : c = k
          · exact Or.inr ⟨w1, y⟩
          · exact Or.inl (Or.inr ⟨w1, Or.inl (by omega)⟩)
        · exact Or.inl (Or.inr ⟨w1, Or.inr w2⟩)
      · unfold upX
        by_cases y : a = i ∧ c = k
        · rw [if_pos y, y.1, y.2]
        · rw [if_neg y]
    refine b_W_isClosedNet_160 ⟨⟨by omega, by omega⟩, ⟨by omega, by omega⟩, fun z => absurd z (by omega), fun _ => ?_⟩
    simp only [f1, f2 i hi, Int.toNat_natCast, cellAt, c1, c2 k hk9, d1, d2 i hi]
    refine ⟨⟨by decide, by decide⟩, ⟨by omega, by omega⟩, ⟨by omega, by omega⟩, fun z => ⟨fun z2 => ⟨⟨by decide, by decide⟩, ⟨by omega, by omega⟩, trivial, ⟨by omega, by omega⟩, ⟨by omega, by omega⟩, by omega, ?_⟩, fun z2 => ⟨⟨by decide, by decide⟩, ⟨by omega, by omega⟩, trivial, ⟨by omega, by omega⟩, ⟨by omega, by omega⟩, by omega, ?_⟩⟩, fun z => ⟨fun z2 => ⟨by omega, ?_⟩, fun z2 => ⟨by omega, ?_⟩⟩⟩
    · refine s_of (d := d + 3) (by unfold A63; omega) (by unfold A63; decide) (by decide) _ ?_
      rintro w1 M1 C1 ⟨rfl, q1, rfl, -, l1, h1⟩
      have e0 : ((0 - Tp k i : Int) : Rat) / ((4 : Int) : Rat) = clT n A i k := by
        rw [clT_rc hA (by omega) hi hk9, if_neg (by omega)]
      rw [e0] at h1
      have g1' := l1.at' (k := 5) zzL g1
      obtain ⟨gg, y1, y2, y3⟩ := id h1
      simp only [cellAt, g1', codeOk, elK, y1, cup_of g1', Int.toNat_natCast]
      exact ⟨⟨by decide, by decide⟩, ⟨by omega, by omega⟩, trivial, go C1 q1 l1 h1⟩
    · refine s_of (d := d + 3) (by unfold A63; omega) (by unfold A63; decide) (by decide) _ ?_
      rintro w1 M1 C1 ⟨rfl, q1, rfl, -, l1, h1⟩
      have e0 : ((4 - Tp k i : Int) : Rat) / ((4 : Int) : Rat) = clT n A i k := by
        rw [clT_rc hA (by omega) hi hk9, if_pos (by omega)]
      rw [e0] at h1
      have g1' := l1.at' (k := 5) zzL g1
      obtain ⟨gg, y1, y2, y3⟩ := id h1
      simp only [cellAt, g1', codeOk, elK, y1, cup_of g1', Int.toNat_natCast]
      exact ⟨⟨by decide, by decide⟩, ⟨by omega, by omega⟩, trivial, go C1 q1 l1 h1⟩
    · refine s_of (d := d + 3) (by unfold A63; decide) (by unfold A63; decide) (by decide) _ ?_
      rintro w1 M1 C1 ⟨rfl, q1, rfl, -, l1, h1⟩
      have ei : i = 0 := by omega
      have e0 : ((0 : Int) : Rat) / ((1 : Int) : Rat) = clT n A i k := by
        rw [ei, clT_0 hk9, if_neg (by omega)]; decide +kernel
      rw [e0] at h1
      have g1' := l1.at' (k := 5) zzL g1
      obtain ⟨gg, y1, y2, y3⟩ := id h1
      simp only [cellAt, g1', codeOk, elK, y1, cup_of g1', Int.toNat_natCast]
      exact ⟨⟨by decide, by decide⟩, ⟨by omega, by omega⟩, trivial, go C1 q1 l1 h1⟩
    · refine s_of (d := d + 3) (by unfold A63; decide) (by unfold A63; decide) (by decide) _ ?_
      rintro w1 M1 C1 ⟨rfl, q1, rfl, -, l1, h1⟩
      have ei : i = 0 := by omega
      have e0 : ((1 : Int) : Rat) / ((1 : Int) : Rat) = clT n A i k := by
        rw [ei, clT_0 hk9, if_pos (by omega)]; decide +kernel
      rw [e0] at h1
      have g1' := l1.at' (k := 5) zzL g1
      obtain ⟨gg, y1, y2, y3⟩ := id h1
      simp only [cellAt, g1', codeOk, elK, y1, cup_of g1', Int.toNat_natCast]
      exact ⟨⟨by decide, by decide⟩, ⟨by omega, by omega⟩, trivial, go C1 q1 l1 h1⟩
theorem cl_143 (hn : 1 ≤ n ∧ n ≤ 3) (hA : ∀ i j, i < n → j < n → A i j = 25 * Tp i j) (hT : ∀ i j, i < n → j < n → 0 ≤ Tp i j ∧ Tp i j ≤ 4) (hF : MxF C2 r9 n P)
    (hN : ∀ (C : LMem) (kc' : Nat) (o11 : Option PV), kc' ≤ 60 → LF [] C2 C → NTq C r4 r5 r6 n Pp cm sv Tp → MRq C r9 n (n + 1) P dT (clT n A) → L_W_isClosedNet_143 (d + 131) Q M C kc' o1 o2 r5 r6 (n : Int) o6 o7 i8 r9 (n : Int) o11 none none none none) :
    ∀ (u i : Nat) (C : LMem) (kc : Nat) (o11 : Option PV), i + u = n → kc + 5 * u ≤ 60 → LF [] C2 C → NTq C r4 r5 r6 n Pp cm sv Tp → MRq C r9 n (n + 1) P (fun a _ => a < i) (clT n A) → L_W_isClosedNet_143 (d + 131) Q M C kc o1 o2 r5 r6 (n : Int) o6 o7 i8 r9 (i : Int) o11 none none none none := by
  intro u
  induction u with
  | zero =>
    intro i C kc o11 hi hkc hl hT9 hM
    obtain rfl : i = n := by omega
    exact hN C kc _ (by omega) hl hT9 (hM.cg fun a c ha hc w => ⟨ha, rfl⟩)
  | succ u ih =>
    intro i C kc o11 hi hkc hl hT9 hM
    have hi9 : i < n := by omega
    obtain ⟨⟨f, f1, f2⟩, m2, m3⟩ := id hM
    obtain ⟨gi, g1, g2⟩ := m2 i hi9
    have go : ∀ (C1 : LMem) (q1 : Nat), LF [] C C1 → FL C1 q1 (clT n A i n) → L_W_isClosedNet_160 (d + 131) Q M (cst C1 (P i) (6, n + 1, sr gi n ((q1 + 1 : Nat) : Int))) (kc + 1) o1 o2 r5 r6 (n : Int) o6 o7 i8 r9 (i : Int) 0 none none none none := by
      intro C1 q1 L h1
      have g1' := L.at' (k := 5) zzL g1
      refine cl_160 (kc0 := kc + 1) hn hA hT hF hi9 (by omega) (fun C' kc' o11 z1 z2 z3 z4 => ?_) n 0 _ _ (by omega) (by omega) ((hl.tr L).set (hF.2 i hi9)) ((hT9.off L).oth g1') (((hM.off L).set (j := n) hi9 g1' h1).cg fun a c ha hc w => ⟨?_, ?_⟩)
      · rw [show (i : Int) + 1 = ((i + 1 : Nat) : Int) by omega]
        exact ih (i + 1) C' kc' _ (by omega) (by omega) z2 z3 z4
      · rcases w with w | ⟨w1, w2 | w2⟩
        · exact Or.inl w
        · exact absurd w2 (Nat.not_lt_zero c)
        · exact Or.inr ⟨w1, w2⟩
      · unfold upX
        by_cases y : a = i ∧ c = n
        · rw [if_pos y, y.1, y.2]
        · rw [if_neg y]
    refine b_W_isClosedNet_143 ⟨⟨by omega, by omega⟩, ⟨by omega, by omega⟩, fun z => absurd z (by omega), fun _ => ?_⟩
    simp only [f1, f2 i hi9, Int.toNat_natCast, cellAt]
    refine ⟨⟨by decide, by decide⟩, ⟨by omega, by omega⟩, fun z => ⟨by omega, ?_⟩, fun z => ⟨by omega, ?_⟩⟩
    · refine s_of (d := d + 3) (by unfold A63; decide) (by unfold A63; decide) (by decide) _ ?_
      rintro w1 M1 C1 ⟨rfl, q1, rfl, -, l1, h1⟩
      have e0 : ((0 : Int) : Rat) / ((1 : Int) : Rat) = clT n A i n := by
        rw [clT_n, if_neg (by omega)]; decide +kernel
      rw [e0] at h1
      have g1' := l1.at' (k := 5) zzL g1
      obtain ⟨gg, y1, y2, y3⟩ := id h1
      simp only [cellAt, g1', codeOk, elK, y1, cup_of g1', Int.toNat_natCast]
      exact ⟨⟨by decide, by decide⟩, ⟨by omega, by omega⟩, trivial, go C1 q1 l1 h1⟩
    · refine s_of (d := d + 3) (by unfold A63; decide) (by unfold A63; decide) (by decide) _ ?_
      rintro w1 M1 C1 ⟨rfl, q1, rfl, -, l1, h1⟩
      have e0 : ((1 : Int) : Rat) / ((1 : Int) : Rat) = clT n A i n := by
        rw [clT_n, if_pos (by omega)]; decide +kernel
      rw [e0] at h1
      have g1' := l1.at' (k := 5) zzL g1
      obtain ⟨gg, y1, y2, y3⟩ := id h1
      simp only [cellAt, g1', codeOk, elK, y1, cup_of g1', Int.toNat_natCast]
      exact ⟨⟨by decide, by decide⟩, ⟨by omega, by omega⟩, trivial, go C1 q1 l1 h1⟩
end CLB
section CLC
variable {d : Nat} {Q : LQ} {M : Mem} {C2 : LMem} {r4 r5 r6 q n : Nat} {Pp : Nat → Nat} {cm sv Cc Ss : Nat → Int} {Tp A : Nat → Nat → Int} {o1 o2 o4 o6 o7 o9 : Option PV} {i8 : Int}
theorem cl_203 (hI : NIv n n cm sv Tp Cc Ss A) (hT : TIv n n Tp) (hn : 1 ≤ n ∧ n ≤ 3) (hO : nOk n Cc Ss A) (hcl : closedOk n Cc A)
    (hN : ∀ (C : LMem) (kc' : Nat) (R : Nat → Nat), kc' ≤ 1200 → LF [] C2 C → VQ C q n n R (fun i => lqQ n Ss A i) → L_W_isClosedNet_203 (d + 131) Q M C kc' o1 o2 r5 o4 (n : Int) o6 o7 i8 o9 (q + 1) (n : Int) none none none none) :
    ∀ (u k : Nat) (C : LMem) (kc : Nat) (R : Nat → Nat), k + u = n → kc + 2 * u ≤ 1200 → LF [] C2 C → (C2 q).1 = 0 → NTq C r4 r5 r6 n Pp cm sv Tp → VQ C q n n R (fun i => if i < k then lqQ n Ss A i else ansQ (clT n A) n i) → L_W_isClosedNet_203 (d + 131) Q M C kc o1 o2 r5 o4 (n : Int) o6 o7 i8 o9 (q + 1) (k : Int) none none none none := by
  intro u
  induction u with
  | zero =>
    intro k C kc R hk hkc hl hq hT9 hV
    obtain rfl : k = n := by omega
    exact hN C kc R (by omega) hl (hV.cgw fun i hi => if_pos hi)
  | succ u ih =>
    intro k C kc R hk hkc hl hq hT9 hV
    have hk9 : k < n := by omega
    have hS := hI.1 k hk9
    obtain ⟨-, ⟨f5, b1, b2⟩, -⟩ := id hT9
    obtain ⟨f, v1, v2⟩ := id hV
    obtain ⟨v3, v4⟩ := v2 k hk9
    have e9 : (if k < k then lqQ n Ss A k else ansQ (clT n A) n k) = ansQ (clT n A) n k := if_neg (Nat.lt_irrefl k)
    have v4 : FL C (R k) (if k < k then lqQ n Ss A k else ansQ (clT n A) n k) := v4
    rw [e9] at v4
    obtain ⟨hD, hval⟩ := clT_sol hO hcl
    have Bx : Bq (ansQ (clT n A) n k) 76032 1728 := ans_bq hn.2 hk9 (clT_nT hI.2.2 hT.1) (hD n (Nat.le_refl n))
    have hs0 : ((sv k : Int) : Rat) ≠ 0 := int_ne (by omega)
    have BS : Bq ((sv k : Int) : Rat) 12 1 := (Bq_int (sv k)).mono (by omega) (Nat.le_refl 1)
    have ev : ansQ (clT n A) n k / ((sv k : Int) : Rat) = lqQ n Ss A k := by
      rw [hval k hk9, ← lq_div hO hcl hk9, hS.1.2]
    refine b_W_isClosedNet_203 ⟨⟨by omega, by omega⟩, ⟨by omega, by omega⟩, fun z => absurd z (by omega), fun _ => ?_⟩
    simp only [cellAt, v1, v3, Int.toNat_natCast, b1, b2 k hk9]
    refine ⟨⟨by decide, by decide⟩, ⟨by omega, by omega⟩, trivial, ⟨by omega, by omega⟩, ⟨by omega, by omega⟩, by omega, ?_⟩
    refine s_of (d := d + 3) (by unfold A63; omega) (by unfold A63; decide) (by decide) _ ?_
    rintro w1 M1 C1 ⟨rfl, p1, rfl, -, l1, h1⟩
    rw [i_one] at h1
    refine ⟨by omega, ?_⟩
    rw [Int.toNat_natCast]
    refine s_by (d := d + 2) (v4.kept l1 zzL) h1 (Bx.okD BS (by decide) (by decide) hs0) _ ?_
    rintro w2 M2 C3 ⟨rfl, p2, rfl, -, l2, h2⟩
    rw [ev] at h2
    have L := l1.tr l2
    have hV2 := hV.off L
    obtain ⟨f', v1', -⟩ := id hV2
    obtain ⟨gg, y1, y2, y3⟩ := id h2
    simp only [cellAt, v1', codeOk, elK, y1, cup_of v1', Int.toNat_natCast]
    refine ⟨⟨by decide, by decide⟩, ⟨by omega, by omega⟩, trivial, ?_⟩
    rw [show (k : Int) + 1 = ((k + 1 : Nat) : Int) by omega]
    refine ih (k + 1) _ _ _ (by omega) (by omega) ((hl.tr L).set hq) hq ((hT9.off L).oth v1') ((hV2.up (k := k) v1' h2).cgw fun i hi => ?_)
    show (if i = k then lqQ n Ss A k else if i < k then lqQ n Ss A i else ansQ (clT n A) n i) = if i < k + 1 then lqQ n Ss A i else ansQ (clT n A) n i
    by_cases e : i = k
    · rw [if_pos e, if_pos (by omega), e]
    · rw [if_neg e]
      by_cases z : i < k
      · rw [if_pos z, if_pos (by omega)]
      · rw [if_neg z, if_neg (by omega)]
end CLC
