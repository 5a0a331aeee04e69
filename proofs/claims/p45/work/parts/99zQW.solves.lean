/-! The law solves. -/
abbrev dT : Nat → Nat → Prop := fun _ _ => True
/-- row i is done up to column c -/
def stRw (X : Nat → Nat → Rat) (k i cc : Nat) : Nat → Nat → Rat := fun a c => if a = i ∧ c < cc then X i c - X i k / X k k * X k c else stq X k i a c
theorem stRw_0 {T X : Nat → Nat → Rat} {n k i : Nat} (h : El T X n k) (hk : k < n) (hi : i < n) (hik : i ≠ k) : ∀ a c, a < n → c < n + 1 → stRw X k i k a c = stq X k i a c := fun a c ha hc => by
  unfold stRw
  by_cases e : a = i ∧ c < k
  · rw [if_pos e, e.1, stq_hi (Nat.le_refl i), h.2.1 k c hk e.2 (by omega)]
    grind
  · rw [if_neg e]
theorem stRw_n {X : Nat → Nat → Rat} {n k i : Nat} (hik : i ≠ k) : ∀ a c, a < n → c < n + 1 → stRw X k i (n + 1) a c = stq X k (i + 1) a c := fun a c ha hc => by
  unfold stRw
  by_cases e : a = i
  · rw [if_pos ⟨e, hc⟩, e, stq_lo (Nat.lt_succ_self i) hik]
  · rw [if_neg (fun z => e z.1)]
    by_cases e2 : a < i ∧ a ≠ k
    · rw [stq_lo e2.1 e2.2, stq_lo (by omega) e2.2]
    · rw [show stq X k i a = X a from if_neg e2, show stq X k (i + 1) a = X a from if_neg fun z => e2 ⟨by omega, z.2⟩]
section SOL
variable {d : Nat} {Q : LQ} {M : Mem} {C0 : LMem} {r n : Nat} {P : Nat → Nat} {T : Nat → Nat → Rat}
theorem sv_66 {X : Nat → Nat → Rat} {k i : Nat} {p : Nat} {kc : Nat} {o3 o4 : Option PV} (hn : n ≤ 3) (hk : k < n) (hi : i < n) (hik : i ≠ k) (hT : nT T n) (hne : ∀ j, j ≤ n → Dd T j ≠ 0) (h : El T X n k) (hF : MxF C0 r n P) (hkc : kc ≤ 900)
    (hN : ∀ (C : LMem) (kc' : Nat) (o6 o7 : Option PV), kc' ≤ kc + 12 → LF [] C0 C → MRq C r n (n + 1) P dT (stq X k (i + 1)) → L_W_solves_35 (d + 129) Q M C kc' r (n : Int) (k : Int) o3 (clr o4) ((i : Int) + 1) o6 o7) :
    ∀ (u c : Nat) (C : LMem) (K : Nat), c + u = n + 1 → k ≤ c → K + 3 * u ≤ kc + 12 → LF [] C0 C → FL C p (X i k / X k k) → MRq C r n (n + 1) P dT (stRw X k i c) → L_W_solves_66 (d + 129) Q M C K r (n : Int) (k : Int) o3 o4 (i : Int) (p + 1) (c : Int) := by
  have Bx : ∀ c, c ≤ n → Bq (X i c) 262144 1024 := fun c hc => h.bq hn hk hi hc hT hne
  have Bk : ∀ c, c ≤ n → Bq (X k c) 262144 1024 := fun c hc => h.bq hn hk hk hc hT hne
  have hx := (h.step hk (hne (k + 1) (by omega))).1
  have Bf : Bq (X i k / X k k) 268435456 268435456 := ((Bx k (by omega)).div (Bk k (by omega)) hx).mono (by decide) (by decide)
  have of := Bf.ok (by decide) (by decide)
  intro u
  induction u with
  | zero =>
    intro c C K hc hkc2 hK hl hf hM
    obtain rfl : c = n + 1 := by omega
    refine b_W_solves_66 ⟨⟨by omega, by omega⟩, ⟨by omega, by omega⟩, fun _ => hN C K _ _ (by omega) hl (hM.cg fun a c ha hc _ => ⟨trivial, stRw_n hik a c ha hc⟩), fun z => absurd (by omega) z⟩
  | succ u ih =>
    intro c C K hc hkc2 hK hl hf hM
    obtain ⟨⟨f, f1, f2⟩, m2, m3⟩ := id hM
    obtain ⟨gi, g1, g2⟩ := m2 i hi
    obtain ⟨gk, g3, g4⟩ := m2 k hk
    obtain ⟨pi, e1, e2⟩ := g2 c (by omega) trivial
    obtain ⟨pk, e3, e4⟩ := g4 c (by omega) trivial
    have v1 : stRw X k i c i c = X i c := by
      unfold stRw
      rw [if_neg (fun z => by omega), stq_hi (Nat.le_refl i)]
    have v2 : stRw X k i c k c = X k c := by
      unfold stRw
      rw [if_neg (fun z => by omega), stq_k]
    rw [v1] at e2
    rw [v2] at e4
    obtain ⟨gf, k1, k2, k3⟩ := id hf
    refine b_W_solves_66 ⟨⟨by omega, by omega⟩, ⟨by omega, by omega⟩, fun z => absurd z (by omega), fun _ => ?_⟩
    simp only [f1, f2 i hi, f2 k hk, Int.toNat_natCast, cellAt, g1, e1, k1, k2, k3]
    have o1 := of.1
    have o2 := of.2
    have hden := (X i k / X k k).den_pos
    refine ⟨⟨by decide, by decide⟩, ⟨by omega, by omega⟩, ⟨by decide, by decide⟩, ⟨by omega, by omega⟩, trivial, ⟨by decide, by decide⟩, trivial, ⟨by decide, by decide⟩, by omega, ?_⟩
    refine s_of (d := d + 1) (by unfold A63 at o1 ⊢; omega) ⟨by omega, o2⟩ (by omega) _ ?_
    rintro w1 M1 C1 ⟨rfl, p1, rfl, -, l1, h1⟩
    have ef : (((-(X i k / X k k).num : Int)) : Rat) / (((X i k / X k k).den : Int) : Rat) = -(X i k / X k k) := by
      have := R_val (x := X i k / X k k)
      have h4 := den_ne (x := X i k / X k k)
      rw [Rat.intCast_neg]
      generalize (((X i k / X k k).den : Int) : Rat) = a at *
      generalize (((X i k / X k k).num : Int) : Rat) = b at *
      generalize X i k / X k k = x at *
      subst this
      grind
    rw [ef] at h1
    have Bg : Bq (-(X i k / X k k)) 268435456 268435456 := by
      obtain ⟨b1, b2⟩ := Bf
      refine ⟨by rw [Rat.neg_num, Int.natAbs_neg]; exact b1, b2⟩
    have f1' := l1.at' (k := 6) zzL f1
    have g3' := l1.at' (k := 5) zzL g3
    simp only [f1', f2 k hk, Int.toNat_natCast, cellAt, g3', e3]
    refine ⟨⟨by decide, by decide⟩, ⟨by omega, by omega⟩, ⟨by decide, by decide⟩, ⟨by omega, by omega⟩, by omega, ?_⟩
    refine s_times (d := d) h1 (e4.kept l1 zzL) (Bg.okT (Bk c (by omega)) (by decide) (by decide)) _ ?_
    rintro w2 M2 C2 ⟨rfl, p2, rfl, -, l2, h2⟩
    refine ⟨by omega, ?_⟩
    rw [Int.toNat_natCast]
    refine s_sum (d := d) ((e2.kept l1 zzL).kept l2 zzL) h2 ((Bx c (by omega)).okS (Bg.mul (Bk c (by omega))) (by decide) (by decide)) _ ?_
    rintro w3 M3 C3 ⟨rfl, p3, rfl, -, l3, h3⟩
    have L := (l1.tr l2).tr l3
    have g1' := L.at' (k := 5) zzL g1
    obtain ⟨gg, y1, y2, y3⟩ := id h3
    simp only [cellAt, g1', codeOk, elK, y1, cup_of g1', Int.toNat_natCast]
    refine ⟨⟨by decide, by decide⟩, ⟨by omega, by omega⟩, trivial, ?_⟩
    have hM' := (hM.off L).set (j := c) hi g1' h3
    rw [show (c : Int) + 1 = ((c + 1 : Nat) : Int) by omega]
    refine ih (c + 1) _ _ (by omega) (by omega) (by omega) ((hl.tr L).set (hF.2 i hi)) ((hf.kept L zzL).oth g1' (by decide)) (hM'.cg fun a cc ha hcc _ => ⟨Or.inl trivial, ?_⟩)
    unfold upX stRw
    by_cases e : a = i
    · by_cases z : cc = c
      · rw [if_pos ⟨e, z⟩, if_pos ⟨e, by omega⟩, z]
        generalize X i k / X k k = x
        grind
      · rw [if_neg (fun w => z w.2)]
        by_cases y : cc < c
        · rw [if_pos ⟨e, y⟩, if_pos ⟨e, by omega⟩]
        · rw [if_neg (fun w => y w.2), if_neg (fun w => by omega)]
    · rw [if_neg (fun w => e w.1), if_neg (fun w => e w.1), if_neg (fun w => e w.1)]
theorem sv_35 {X : Nat → Nat → Rat} {k : Nat} {kc0 : Nat} {o3 : Option PV} (hn : n ≤ 3) (hk : k < n) (hT : nT T n) (hne : ∀ j, j ≤ n → Dd T j ≠ 0) (h : El T X n k) (hF : MxF C0 r n P) (hkc0 : kc0 ≤ 800)
    (hN : ∀ (C : LMem) (kc' : Nat) (o3 o4 o5 o6 o7 : Option PV), kc' ≤ kc0 + 39 → LF [] C0 C → MRq C r n (n + 1) P dT (stq X k n) → L_W_solves_2 (d + 129) Q M C kc' r (n : Int) ((k : Int) + 1) o3 o4 o5 o6 o7) :
    ∀ (u i : Nat) (C : LMem) (kc : Nat) (o4 o6 o7 : Option PV), i + u = n → kc + 13 * u ≤ kc0 + 39 → LF [] C0 C → MRq C r n (n + 1) P dT (stq X k i) → L_W_solves_35 (d + 129) Q M C kc r (n : Int) (k : Int) o3 o4 (i : Int) o6 o7 := by
  intro u
  induction u with
  | zero =>
    intro i C kc o4 o6 o7 hi hkc hl hM
    obtain rfl : i = n := by omega
    exact b_W_solves_35 ⟨⟨by omega, by omega⟩, ⟨by omega, by omega⟩, fun _ => hN C kc _ _ _ _ _ (by omega) hl hM, fun z => absurd (Int.le_refl _) z⟩
  | succ u ih =>
    intro i C kc o4 o6 o7 hi hkc hl hM
    have hi9 : i < n := by omega
    obtain ⟨⟨f, f1, f2⟩, m2, m3⟩ := id hM
    obtain ⟨gi, g1, g2⟩ := m2 i hi9
    obtain ⟨gk, g3, g4⟩ := m2 k hk
    obtain ⟨pi, e1, e2⟩ := g2 k (by omega) trivial
    obtain ⟨pk, e3, e4⟩ := g4 k (by omega) trivial
    rw [stq_hi (Nat.le_refl i)] at e2
    rw [stq_k] at e4
    have Bx : Bq (X i k) 262144 1024 := h.bq hn hk hi9 (by omega) hT hne
    have Bk : Bq (X k k) 262144 1024 := h.bq hn hk hk (by omega) hT hne
    have hx := (h.step hk (hne (k + 1) (by omega))).1
    have ox := (Bx.ok (by decide) (by decide)).1
    obtain ⟨gx, x1, x2, x3⟩ := id e2
    refine b_W_solves_35 ⟨⟨by omega, by omega⟩, ⟨by omega, by omega⟩, fun z => absurd z (by omega), fun _ => ⟨⟨by omega, by omega⟩, fun z => ?_, fun z => ?_⟩⟩
    · rw [show (i : Int) + 1 = ((i + 1 : Nat) : Int) by omega]
      refine ih (i + 1) C kc _ _ _ (by omega) (by omega) hl ?_
      have e : i = k := by omega
      rw [e, stq_own]
      rw [e] at hM
      exact hM
    · have hik : i ≠ k := fun w => z (by omega)
      simp only [f1, f2 i hi9, f2 k hk, Int.toNat_natCast, cellAt, g1, e1, g3, e3, x1, x2]
      unfold A63 at ox
      refine ⟨⟨by decide, by decide⟩, ⟨by omega, by omega⟩, ⟨by decide, by decide⟩, ⟨by omega, by omega⟩, trivial, ⟨by decide, by decide⟩, ⟨by omega, by omega⟩, fun z => ⟨⟨by decide, by decide⟩, ⟨by omega, by omega⟩, ⟨by omega, by omega⟩, ⟨by decide, by decide⟩, ⟨by omega, by omega⟩, by omega, ?_⟩, fun z => ?_⟩
      · refine s_by (d := d) e2 e4 (Bx.okD Bk (by decide) (by decide) hx) _ ?_
        rintro w1 M1 C1 ⟨rfl, p1, rfl, -, l1, h1⟩
        rw [Int.toNat_natCast]
        refine sv_66 (kc := kc + 1) hn hk hi9 hik hT hne h hF (by omega) (fun C' kc' o6 o7 z1 z2 z3 => ?_) (n + 1 - k) k C1 _ (by omega) (Nat.le_refl k) (by omega) (hl.tr l1) h1 ((hM.off l1).cg fun a c ha hc _ => ⟨trivial, (stRw_0 h hk hi9 hik a c ha hc).symm⟩)
        rw [show (i : Int) + 1 = ((i + 1 : Nat) : Int) by omega]
        exact ih (i + 1) C' kc' _ _ _ (by omega) (by omega) z2 z3
      · rw [show (i : Int) + 1 = ((i + 1 : Nat) : Int) by omega]
        refine ih (i + 1) C kc _ _ _ (by omega) (by omega) hl (hM.cg fun a c ha hc _ => ⟨trivial, ?_⟩)
        have x0 : X i k = 0 := Rat.num_eq_zero.mp (Decidable.not_not.mp z)
        by_cases e : a = i
        · rw [e, stq_hi (Nat.le_refl i), stq_lo (Nat.lt_succ_self i) hik, x0]
          grind
        · by_cases e2 : a < i ∧ a ≠ k
          · rw [stq_lo e2.1 e2.2, stq_lo (by omega) e2.2]
          · rw [show stq X k i a = X a from if_neg e2, show stq X k (i + 1) a = X a from if_neg fun z => e2 ⟨by omega, z.2⟩]
theorem sv_2 (hn : n ≤ 3) (hT : nT T n) (hne : ∀ j, j ≤ n → Dd T j ≠ 0) (hF : MxF C0 r n P)
    (hN : ∀ (C : LMem) (kc' : Nat) (X : Nat → Nat → Rat) (o3 o4 o5 o6 o7 : Option PV), kc' ≤ 120 → LF [] C0 C → El T X n n → MRq C r n (n + 1) P dT X → L_W_solves_2 (d + 129) Q M C kc' r (n : Int) (n : Int) o3 o4 o5 o6 o7) :
    ∀ (u k : Nat) (C : LMem) (kc : Nat) (X : Nat → Nat → Rat) (o3 o4 o5 o6 o7 : Option PV), k + u = n → kc + 39 * u ≤ 120 → LF [] C0 C → El T X n k → MRq C r n (n + 1) P dT X → L_W_solves_2 (d + 129) Q M C kc r (n : Int) (k : Int) o3 o4 o5 o6 o7 := by
  intro u
  induction u with
  | zero =>
    intro k C kc X o3 o4 o5 o6 o7 hk hkc hl h hM
    obtain rfl : k = n := by omega
    exact hN C kc X _ _ _ _ _ (by omega) hl h hM
  | succ u ih =>
    intro k C kc X o3 o4 o5 o6 o7 hk hkc hl h hM
    have hk9 : k < n := by omega
    obtain ⟨⟨f, f1, f2⟩, m2, m3⟩ := id hM
    obtain ⟨gk, g3, g4⟩ := m2 k hk9
    obtain ⟨pk, e3, e4⟩ := g4 k (by omega) trivial
    have Bk : Bq (X k k) 262144 1024 := h.bq hn hk9 hk9 (by omega) hT hne
    have hst := h.step hk9 (hne (k + 1) (by omega))
    have ox := (Bk.ok (by decide) (by decide)).1
    unfold A63 at ox
    obtain ⟨gx, x1, x2, x3⟩ := id e4
    have s1 : cup C r k (((P k + 1 : Nat) : Int)) = C := cup_self f1 (f2 k hk9)
    refine b_W_solves_2 ⟨⟨by omega, by omega⟩, ⟨by omega, by omega⟩, fun z => absurd z (by omega), fun _ => b_W_solves_7 ?_⟩
    simp only [f1, f2 k hk9, Int.toNat_natCast, cellAt, g3, e3, x1, x2, s1, codeOk, elK]
    refine ⟨⟨by decide, by decide⟩, ⟨by omega, by omega⟩, ⟨by decide, by decide⟩, ⟨by omega, by omega⟩, trivial, ⟨by decide, by decide⟩, ⟨by omega, by omega⟩, fun z => ⟨⟨by omega, by omega⟩, trivial, ⟨by decide, by decide⟩, ⟨by omega, by omega⟩, trivial, ?_⟩, fun z => absurd (fun w => hst.1 (Rat.num_eq_zero.mp w)) z⟩
    refine sv_35 (kc0 := kc) hn hk9 hT hne h hF (by omega) (fun C' kc' o3 o4 o5 o6 o7 z1 z2 z3 => ?_) n 0 C kc _ _ _ (by omega) (by omega) hl (hM.cg fun a c ha hc _ => ⟨trivial, by rw [stq_hi (Nat.zero_le a)]⟩)
    rw [show (k : Int) + 1 = ((k + 1 : Nat) : Int) by omega]
    exact ih (k + 1) C' kc' _ _ _ _ _ _ (by omega) (by omega) z2 hst.2 z3
theorem s_solves {C : LMem} (hn : n ≤ 3) (hT : nT T n) (hne : ∀ j, j ≤ n → Dd T j ≠ 0) (hF : MxF C0 r n P) (hl : LF [] C0 C) (hM : MRq C r n (n + 1) P dT T) : LPo (d + 130) cW_solves [.inr (.inr (.inl (r + 1))), .inl (n : Int)] M C (fun v m c => m = M ∧ ∃ q R, v = ((q + 1 : Nat) : Int) ∧ LF [] C0 c ∧ (C0 q).1 = 0 ∧ VQ c q n n R (ansQ T n)) := fun Q hQ => by
  refine e_W_solves (b_W_solves_0 ?_)
  refine sv_2 (Q := Q) hn hT hne hF (fun C kc X o3 o4 o5 o6 o7 z1 z2 z3 z4 => ?_) n 0 C 0 T _ _ _ _ _ (by omega) (by omega) hl El.start hM
  refine b_W_solves_2 ⟨⟨by omega, by omega⟩, ⟨by omega, by omega⟩, fun _ => ⟨⟨by omega, by omega⟩, by rw [Int.toNat_natCast]; unfold lcost; omega, fun q hq => ?_⟩, fun z => absurd (Int.le_refl _) z⟩
  rw [Int.toNat_natCast]
  have hq0 := z2.free hq
  have l105 : ∀ (u k : Nat) (C' : LMem) (K : Nat) (R : Nat → Nat) (w : Nat → Rat) (o4 o5 o6 o7 : Option PV), k + u = n → K + u ≤ 200 → LF [] C0 C' → MRq C' r n (n + 1) P dT X → VQ C' q n k R w → (∀ i, i < k → w i = ansQ T n i) → L_W_solves_105 (d + 129) Q M C' K r (n : Int) q (k : Int) o4 o5 o6 o7 := by
    intro u
    induction u with
    | zero =>
      intro k C' K R w o4 o5 o6 o7 hk hK hl' hM' hV hw
      obtain rfl : k = n := by omega
      refine b_W_solves_105 ⟨⟨by omega, by omega⟩, ⟨by omega, by omega⟩, fun _ => hQ _ _ _ ⟨rfl, q, R, rfl, hl', hq0, ?_⟩, fun z => absurd (Int.le_refl _) z⟩
      obtain ⟨f, h1, h2⟩ := hV
      exact ⟨f, h1, fun i hi => by rw [← hw i hi]; exact h2 i hi⟩
    | succ u ih =>
      intro k C' K R w o4 o5 o6 o7 hk hK hl' hM' hV hw
      have hk9 : k < n := by omega
      obtain ⟨⟨f, f1, f2⟩, m2, m3⟩ := id hM'
      obtain ⟨gk, g3, g4⟩ := m2 k hk9
      obtain ⟨pk, e3, e4⟩ := g4 k (by omega) trivial
      obtain ⟨pn, e1, e2⟩ := g4 n (by omega) trivial
      have Bn : Bq (X k n) 268435456 524288 := z3.bqE hn hk9 (Nat.le_refl n) hT hne
      have Bk : Bq (X k k) 268435456 524288 := z3.bqE hn hk9 (by omega) hT hne
      have hx := (z3.2.2 k hk9).1
      refine b_W_solves_105 ⟨⟨by omega, by omega⟩, ⟨by omega, by omega⟩, fun z => absurd z (by omega), fun _ => ?_⟩
      simp only [f1, f2 k hk9, Int.toNat_natCast, cellAt, g3, e3, e1]
      refine ⟨⟨by decide, by decide⟩, ⟨by omega, by omega⟩, ⟨by decide, by decide⟩, ⟨by omega, by omega⟩, ⟨by decide, by decide⟩, ⟨by omega, by omega⟩, by omega, ?_⟩
      refine s_by (d := d) e2 e4 (Bn.okD Bk (by decide) (by decide) hx) _ ?_
      rintro w1 M1 C1 ⟨rfl, p1, rfl, -, l1, h1⟩
      have hV1 := hV.off l1
      obtain ⟨fq, v1, v2⟩ := id hV1
      obtain ⟨gy, y1, y2, y3⟩ := id h1
      rw [Int.toNat_natCast]
      simp only [v1, Int.toNat_natCast, codeOk, elK, y1, cup_of v1]
      refine ⟨⟨by decide, by decide⟩, ⟨by omega, by omega⟩, trivial, ?_⟩
      have hM1 := hM'.off l1
      obtain ⟨⟨f', f1', f2'⟩, m2', m3'⟩ := id hM1
      have nq : q ≠ r ∧ ∀ i, i < n → q ≠ P i := by
        obtain ⟨⟨f8, a1, -⟩, a2, -⟩ := z4
        refine ⟨fun e => ?_, fun i hi e => ?_⟩
        · rw [← e] at a1
          rw [a1] at hq
          exact absurd (show (7 : Nat) = 0 from hq) (by decide)
        · obtain ⟨g8, b1, -⟩ := a2 i hi
          rw [← e] at b1
          rw [b1] at hq
          exact absurd (show (6 : Nat) = 0 from hq) (by decide)
      have hM2 := hM1.oth (y := (6, n, sr fq k ((p1 + 1 : Nat) : Int))) v1 (by decide) nq
      rw [show (k : Int) + 1 = ((k + 1 : Nat) : Int) by omega]
      refine ih (k + 1) _ _ _ _ _ _ _ _ (by omega) (by omega) ((hl'.tr l1).set hq0) hM2 (hV1.set v1 h1) (fun i hi => ?_)
      show (if i = k then X k n / X k k else w i) = ansQ T n i
      by_cases e : i = k
      · rw [if_pos e, e]
        exact z3.answer hk9 (hne n (Nat.le_refl n))
      · rw [if_neg e]
        exact hw i (by omega)
  refine l105 n 0 _ _ (fun _ => 0) (fun _ => 0) _ _ _ _ (by omega) (by unfold lcost; omega) (z2.new hq) ?_ ⟨_, cst_self, fun i hi => absurd hi (Nat.not_lt_zero i)⟩ (fun i hi => absurd hi (Nat.not_lt_zero i))
  exact z4.off (LF.rf.new hq)
end SOL
