/-! isClosedNet: the mean numbers. -/
theorem prS_r12 {S : Nat → Int} {i : Nat} {n : Nat} (h : ∀ k, k < n → 1 ≤ S k ∧ S k ≤ 12) (hi : i < n) : ∀ k, k ≤ n → 0 < prS S i k ∧ prS S i k ≤ 12 ^ (if i < k then k - 1 else k) := by
  intro k
  induction k with
  | zero => intro _; exact ⟨Nat.one_pos, Nat.one_le_pow _ _ (by decide)⟩
  | succ k ih =>
    intro hk
    obtain ⟨h1, h2⟩ := ih (by omega)
    show 0 < prS S i k * (if k = i then 1 else (S k).toNat) ∧ prS S i k * (if k = i then 1 else (S k).toNat) ≤ _
    have hs := h k (by omega)
    by_cases e : k = i
    · rw [if_pos e, Nat.mul_one]
      rw [if_neg (by omega)] at h2
      rw [if_pos (by omega), Nat.add_sub_cancel]
      exact ⟨h1, h2⟩
    · rw [if_neg e]
      refine ⟨Nat.mul_pos h1 (by omega), ?_⟩
      have h3 : prS S i k * (S k).toNat ≤ 12 ^ (if i < k then k - 1 else k) * 12 := Nat.mul_le_mul h2 (by omega)
      rw [← Nat.pow_succ] at h3
      by_cases q : i < k
      · rw [if_pos q] at h3
        rw [if_pos (by omega), show k + 1 - 1 = k - 1 + 1 by omega]
        exact h3
      · rw [if_neg q] at h3
        rw [if_neg (by omega)]
        exact h3
theorem prA_r12 {S : Nat → Int} {n : Nat} (h : ∀ k, k < n → 1 ≤ S k ∧ S k ≤ 12) : ∀ k, k ≤ n → 0 < prA S k ∧ prA S k ≤ 12 ^ k := by
  intro k
  induction k with
  | zero => intro _; exact ⟨Nat.one_pos, Nat.le_refl _⟩
  | succ k ih =>
    intro hk
    obtain ⟨h1, h2⟩ := ih (by omega)
    have hs := h k (by omega)
    exact ⟨Nat.mul_pos h1 (by omega), Nat.mul_le_mul h2 (by omega)⟩
/-- the minors are some 25s times small numbers -/
theorem ct_small {n : Nat} {C S : Nat → Int} {A Tp : Nat → Nat → Int} (hn : 1 ≤ n ∧ n ≤ 3) (hO : nOk n C S A) (hcl : closedOk n C A) (hA : ∀ i j, i < n → j < n → A i j = 25 * Tp i j) (hT : ∀ i j, i < n → j < n → 0 ≤ Tp i j ∧ Tp i j ≤ 4) {i : Nat} (hi : i < n) : ∃ κ : Nat, 0 < κ ∧ κ ≤ 64 ∧ ctN n A i = 25 ^ (n - 1) * κ := by
  obtain ⟨h1, h2, -⟩ := ctN_is hO hcl hi
  have sk : ∀ {a}, a < n - 1 → skp i a < n := fun {a} ha => by
    have := (skp_r (p := i) (c := a) (W := n - 1) (by omega)).mpr ha
    omega
  have e1 : tcof (clN n A) (n - 1) i = wed (n - 1) (fun a c => (((if skp i a = skp i c then 4 else 0) - Tp (skp i a) (skp i c) : Int) : Rat) * ((25 : Int) : Rat)) (n - 1) (full (n - 1)) := by
    show wed (n - 1) (fun a c => clN n A (skp i a) (skp i c)) (n - 1) (full (n - 1)) = _
    refine congrFun (wed_cells (n - 1) fun a c ha hc => ?_) _
    rw [clN_at (sk ha) (sk hc), ← Rat.intCast_mul, hA _ _ (sk ha) (sk hc)]
    congr 1
    split <;> omega
  rw [← wed_D] at e1
  obtain ⟨z, z1, z2, z3⟩ := wed_whole (W := n - 1) (R := fun a c => (((if skp i a = skp i c then 4 else 0) - Tp (skp i a) (skp i c) : Int) : Rat)) (a := 4) (by decide) (n - 1) (fun a c ha hc => by
    have := hT _ _ (sk ha) (sk hc)
    refine ⟨_, rfl, ?_⟩
    constructor <;> (split <;> omega)) (full (n - 1))
  rw [z1, ← h1, ← cast_pow, ← Rat.intCast_mul] at e1
  have e2 := Rat.intCast_inj.mp e1
  have p64 : (((n - 1 : Nat) : Int) * 4) ^ (n - 1) ≤ 64 := (pw3 (n - 1) (by omega)).2.2.1 (by omega)
  have p25 : (0 : Int) < 25 ^ (n - 1) := Int.pow_pos (by decide)
  have hz : 0 < z := by
    rcases Int.lt_or_le 0 z with w | w
    · exact w
    · have := Int.mul_le_mul_of_nonneg_right w (Int.le_of_lt p25)
      rw [Int.zero_mul] at this
      omega
  refine ⟨z.toNat, by omega, by omega, Int.ofNat_inj.mp ?_⟩
  rw [e2, Int.natCast_mul, Int.natCast_pow, show ((z.toNat : Nat) : Int) = z by omega, Int.mul_comm]
  rfl
abbrev frK (x D : Nat) : Rat := (((x : Nat) : Int) : Rat) / (((D : Nat) : Int) : Rat)
theorem frK_add {x w D : Nat} : frK x D + frK w D = frK (x + w) D := by
  unfold frK
  rw [Int.natCast_add, Rat.intCast_add]
  generalize (((D : Nat) : Int) : Rat) = y
  generalize (((x : Nat) : Int) : Rat) = u
  generalize (((w : Nat) : Int) : Rat) = v
  grind
theorem frK_0 {D : Nat} : frK 0 D = 0 := by
  unfold frK
  have e : (((0 : Nat) : Int) : Rat) = 0 := rfl
  rw [e]
  generalize (((D : Nat) : Int) : Rat) = y
  grind
theorem frK_bq {x D : Nat} (hD : 0 < D) : Bq (frK x D) x D := (Bq_div (a := ((x : Nat) : Int)) (b := ((D : Nat) : Int)) (by omega)).mono (by omega) (by omega)
theorem VQ.othz {C : LMem} {q n m z k mz : Nat} {R : Nat → Nat} {w : Nat → Rat} {f : Nat → Int} {y : LCel} (h : VQ C q n m R w) (hz : C z = (k, mz, f)) (h2 : k ≠ 2) (hne : z ≠ q) : VQ (cst C z y) q n m R w := by
  obtain ⟨g, h1, h3⟩ := h
  exact ⟨g, by rw [cst_ne (Ne.symm hne)]; exact h1, fun i hi => ⟨(h3 i hi).1, (h3 i hi).2.oth hz h2⟩⟩
section CLD
variable {d : Nat} {Q : LQ} {M : Mem} {C2 : LMem} {q q12 n J K D : Nat} {L : Nat → Nat} {lq : Nat → Rat} {Rq : Nat → Nat} {o1 o2 o3 o4 o6 o7 o9 : Option PV} {F : Nat × (Nat → Nat)}
/-- the two rows while the sums are taken -/
def SMq (C2 : LMem) (q q12 n D : Nat) (lq : Nat → Rat) (Rq : Nat → Nat) (p : Nat) (R : Nat → Nat) (s : Nat × (Nat → Nat)) (C : LMem) : Prop := LF [] C2 C ∧ VQ C q n n Rq lq ∧ FL C p (frK s.1 D) ∧ VQ C q12 n n R (fun k => frK (s.2 k) D)
theorem cl_255 (hn : 1 ≤ n ∧ n ≤ 3) (hJ : J = 1 ∨ J = 2) (hK : 0 < K ∧ K ≤ 110592) (hD : D = if J = 2 then K * K else K) (hL : ∀ i, i < n → lq i = frK (L i) K) (hB : ∀ i, i < n → Bq (lq i) 64 768) (hq12 : (C2 q12).1 = 0) (hne : q12 ≠ q) (hF1 : F.1 ≤ 509607936) (hF2 : ∀ k, k < n → F.2 k ≤ 339738624) {a kc0 : Nat} (ha : a < n) (hkc0 : kc0 ≤ 2000) {v : Nat}
    (hN : ∀ (C : LMem) (kc' p : Nat) (R : Nat → Nat) (s : Nat × (Nat → Nat)) (o14 o15 : Option PV), kc' ≤ kc0 + 12 → SMq C2 q q12 n D lq Rq p R s C → fO J n L v (a + 1) s = F → L_W_isClosedNet_250 (d + 131) Q M C kc' o1 o2 o3 o4 (n : Int) o6 o7 (J : Int) o9 (q + 1) (p + 1) q12 ((a : Int) + 1) o14 o15) :
    ∀ (u b : Nat) (C : LMem) (kc p : Nat) (R : Nat → Nat) (s : Nat × (Nat → Nat)) (o15 : Option PV), (if J = 2 then b + u = n else b + u = a + 1) → a ≤ b → kc + 4 * u ≤ kc0 + 12 → SMq C2 q q12 n D lq Rq p R s C → fO J n L v (a + 1) (fI J L a u b s) = F → L_W_isClosedNet_255 (d + 131) Q M C kc o1 o2 o3 o4 (n : Int) o6 o7 (J : Int) o9 (q + 1) (p + 1) q12 (a : Int) (b : Int) o15 := by
  have hD0 : 0 < D := by
    rw [hD]
    split
    · exact Nat.mul_pos hK.1 hK.1
    · exact hK.1
  have hDle : D ≤ 12230590464 := by
    rw [hD]
    split
    · exact Nat.le_trans (Nat.mul_le_mul hK.2 hK.2) (by decide)
    · omega
  have hKr : (((K : Nat) : Int) : Rat) ≠ 0 := int_ne (by omega)
  intro u
  induction u with
  | zero =>
    intro b C kc p R s o15 hb hab hkc hS hf
    refine b_W_isClosedNet_255 ⟨⟨by omega, by omega⟩, fun z => ?_, fun z => ?_⟩
    · rw [if_neg (by omega)] at hb
      exact ⟨⟨by omega, by omega⟩, ⟨by omega, by omega⟩, fun _ => hN C kc p R s _ _ (by omega) hS hf, fun w => absurd (by omega) w⟩
    · rw [if_pos (by omega)] at hb
      exact ⟨⟨by omega, by omega⟩, ⟨by omega, by omega⟩, fun _ => hN C kc p R s _ _ (by omega) hS hf, fun w => absurd (by omega) w⟩
  | succ u ih =>
    intro b C kc p R s o15 hb hab hkc hS hf
    have hb9 : b < n := by
      rcases hJ with rfl | rfl
      · rw [if_neg (by decide)] at hb; omega
      · rw [if_pos rfl] at hb; omega
    have hb' : if J = 2 then b + 1 + u = n else b + 1 + u = a + 1 := by
      by_cases z : J = 2
      · rw [if_pos z] at hb ⊢; omega
      · rw [if_neg z] at hb ⊢; omega
    -- the next state is within what the end comes to
    have hle1 : s.1 + wJ J L a b ≤ F.1 := by
      rw [← hf]
      exact Nat.le_trans (fI_le u (b + 1) (s.1 + wJ J L a b, addm J (wJ J L a b) a b s.2)).1 (fO_le v (a + 1) _).1
    have hle2 : ∀ k, addm J (wJ J L a b) a b s.2 k ≤ F.2 k := fun k => by
      rw [← hf]
      exact Nat.le_trans ((fI_le u (b + 1) (s.1 + wJ J L a b, addm J (wJ J L a b) a b s.2)).2 k) ((fO_le v (a + 1) _).2 k)
    have l265 : L_W_isClosedNet_265 (d + 131) Q M C kc o1 o2 o3 o4 (n : Int) o6 o7 (J : Int) o9 (q + 1) (p + 1) q12 (a : Int) (b : Int) o15 := by
      obtain ⟨hl, hV, hp, hm⟩ := hS
      obtain ⟨f, v1, v2⟩ := id hV
      obtain ⟨va1, va2⟩ := v2 a ha
      obtain ⟨vb1, vb2⟩ := v2 b hb9
      have Bal : Bq (frK s.1 D) 509607936 12230590464 := (frK_bq hD0).mono (by omega) hDle
      have hma : s.2 a ≤ 339738624 := by
        have h1 := hle2 a
        have h2 := hF2 a ha
        have : addm J (wJ J L a b) a b s.2 a = (s.2 a + if a = a then wJ J L a b else 0) + if J = 2 ∧ a = b then wJ J L a b else 0 := rfl
        omega
      have Bma : Bq (frK (s.2 a) D) 339738624 12230590464 := (frK_bq hD0).mono hma hDle
      rcases hJ with rfl | rfl
      · -- one job
        rw [if_neg (by decide)] at hD hb
        have eb : b = a := by omega
        subst eb
        have ew : wJ 1 L b b = L b := wJ_1
        have ei : lq b = frK (wJ 1 L b b) D := by rw [hL b ha, ew, hD]
        have Bi := hB b ha
        refine b_W_isClosedNet_265 ⟨⟨by omega, by omega⟩, fun _ => ?_, fun z => absurd (by omega) z⟩
        simp only [cellAt, v1, va1, Int.toNat_natCast]
        refine ⟨⟨by decide, by decide⟩, ⟨by omega, by omega⟩, by omega, ?_⟩
        refine s_sum (d := d + 2) hp va2 (Bal.okS Bi (by decide) (by decide)) _ ?_
        rintro w1 M1 C1 ⟨rfl, p1, rfl, -, l1, h1⟩
        have hm1 := hm.off l1
        obtain ⟨g, m1, m2⟩ := id hm1
        obtain ⟨ma1, ma2⟩ := m2 b ha
        simp only [m1, ma1, Int.toNat_natCast]
        refine ⟨⟨by decide, by decide⟩, ⟨by omega, by omega⟩, by omega, ?_⟩
        refine s_sum (d := d + 2) ma2 (va2.kept l1 zzL) (Bma.okS Bi (by decide) (by decide)) _ ?_
        rintro w2 M2 C3 ⟨rfl, p2, rfl, -, l2, h2⟩
        have hm2 := hm1.off l2
        obtain ⟨g', m1', m2'⟩ := id hm2
        obtain ⟨gg, y1, y2, y3⟩ := id h2
        simp only [m1', codeOk, elK, y1, cup_of m1', Int.toNat_natCast]
        refine ⟨⟨by decide, by decide⟩, ⟨by omega, by omega⟩, trivial, fun _ => ?_, fun z => absurd (by decide) z⟩
        rw [show (b : Int) + 1 = ((b + 1 : Nat) : Int) by omega]
        refine ih (b + 1) _ _ p1 _ (s.1 + wJ 1 L b b, addm 1 (wJ 1 L b b) b b s.2) _ hb' (by omega) (by omega) ⟨(hl.tr (l1.tr l2)).set hq12, (hV.off (l1.tr l2)).othz m1' (by decide) hne, ?_, (hm2.up (k := b) m1' h2).cgw fun k hk => ?_⟩ hf
        · show FL _ p1 (frK (s.1 + wJ 1 L b b) D)
          rw [← frK_add, ← ei]
          exact (h1.kept l2 zzL).oth m1' (by decide)
        · show (if k = b then frK (s.2 b) D + lq b else frK (s.2 k) D) = frK ((s.2 k + if k = b then wJ 1 L b b else 0) + if 1 = 2 ∧ k = b then wJ 1 L b b else 0) D
          rw [if_neg (show ¬ (1 = 2 ∧ k = b) from fun w => absurd w.1 (by decide)), Nat.add_zero]
          by_cases e : k = b
          · rw [if_pos e, if_pos e, e, ← frK_add, ← ei]
          · rw [if_neg e, if_neg e, Nat.add_zero]
      · -- two jobs
        rw [if_pos rfl] at hD hb
        have ew : wJ 2 L a b = L a * L b := wJ_2
        have ei : lq a * lq b = frK (wJ 2 L a b) D := by
          rw [hL a ha, hL b hb9, ew, hD]
          unfold frK
          rw [Int.natCast_mul, Int.natCast_mul, Rat.intCast_mul, Rat.intCast_mul]
          generalize (((K : Nat) : Int) : Rat) = y at *
          generalize (((L a : Nat) : Int) : Rat) = x
          generalize (((L b : Nat) : Int) : Rat) = z
          grind
        have Ba := hB a ha
        have Bb := hB b hb9
        have Bi : Bq (lq a * lq b) 4096 589824 := (Ba.mul Bb).mono (by decide) (by decide)
        refine b_W_isClosedNet_265 ⟨⟨by omega, by omega⟩, fun z => absurd (by decide) z, fun _ => ?_⟩
        simp only [cellAt, v1, va1, vb1, Int.toNat_natCast]
        refine ⟨⟨by decide, by decide⟩, ⟨by omega, by omega⟩, ⟨by decide, by decide⟩, ⟨by omega, by omega⟩, by omega, ?_⟩
        refine s_times (d := d + 2) va2 vb2 (Ba.okT Bb (by decide) (by decide)) _ ?_
        rintro w0 M0 C0 ⟨rfl, p0, rfl, -, l0, h0⟩
        rw [Int.toNat_natCast]
        refine ⟨by omega, ?_⟩
        refine s_sum (d := d + 2) (hp.kept l0 zzL) h0 (Bal.okS Bi (by decide) (by decide)) _ ?_
        rintro w1 M1 C1 ⟨rfl, p1, rfl, -, l1, h1⟩
        have hm1 := (hm.off l0).off l1
        obtain ⟨g, m1, m2⟩ := id hm1
        obtain ⟨ma1, ma2⟩ := m2 a ha
        simp only [m1, ma1, Int.toNat_natCast]
        refine ⟨⟨by decide, by decide⟩, ⟨by omega, by omega⟩, by omega, ?_⟩
        refine s_sum (d := d + 2) ma2 (h0.kept l1 zzL) (Bma.okS Bi (by decide) (by decide)) _ ?_
        rintro w2 M2 C3 ⟨rfl, p2, rfl, -, l2, h2⟩
        have hm2 := hm1.off l2
        obtain ⟨g', m1', m2'⟩ := id hm2
        obtain ⟨gg, y1, y2, y3⟩ := id h2
        have hmx := hm2.up (k := a) m1' h2
        have h0x := ((h0.kept l1 zzL).kept l2 zzL).oth (y := (6, n, sr g' a ((p2 + 1 : Nat) : Int))) m1' (by decide)
        have hlx : LF [] C2 (cst C3 q12 (6, n, sr g' a ((p2 + 1 : Nat) : Int))) := (hl.tr ((l0.tr l1).tr l2)).set hq12
        have hVx := (hV.off ((l0.tr l1).tr l2)).othz (y := (6, n, sr g' a ((p2 + 1 : Nat) : Int))) m1' (by decide) hne
        have h1x := (h1.kept l2 zzL).oth (y := (6, n, sr g' a ((p2 + 1 : Nat) : Int))) m1' (by decide)
        simp only [m1', codeOk, elK, y1, cup_of m1', Int.toNat_natCast]
        generalize cst C3 q12 (6, n, sr g' a ((p2 + 1 : Nat) : Int)) = CX at *
        have hmx' : VQ CX q12 n n (fun i => if i = a then p2 else R i) (fun k => frK (s.2 k + if k = a then wJ 2 L a b else 0) D) := hmx.cgw fun k hk => by
          show (if k = a then frK (s.2 a) D + lq a * lq b else frK (s.2 k) D) = _
          by_cases e : k = a
          · rw [if_pos e, if_pos e, e, ← frK_add, ← ei]
          · rw [if_neg e, if_neg e, Nat.add_zero]
        obtain ⟨g3, x1, x2⟩ := id hmx'
        obtain ⟨x3, x4⟩ := x2 b hb9
        simp only [x1, x3, Int.toNat_natCast]
        have hmb : (s.2 b + if b = a then wJ 2 L a b else 0) ≤ 339738624 := by
          have h1 := hle2 b
          have h2 := hF2 b hb9
          have : addm 2 (wJ 2 L a b) a b s.2 b = (s.2 b + if b = a then wJ 2 L a b else 0) + if 2 = 2 ∧ b = b then wJ 2 L a b else 0 := rfl
          omega
        have Bmb : Bq (frK (s.2 b + if b = a then wJ 2 L a b else 0) D) 339738624 12230590464 := (frK_bq hD0).mono hmb hDle
        refine ⟨⟨by decide, by decide⟩, ⟨by omega, by omega⟩, trivial, fun z => absurd (by decide) z, fun _ => ⟨⟨by decide, by decide⟩, ⟨by omega, by omega⟩, by omega, ?_⟩⟩
        refine s_sum (d := d + 2) x4 h0x (Bmb.okS Bi (by decide) (by decide)) _ ?_
        rintro w4 M4 C4 ⟨rfl, p4, rfl, -, l4, h4⟩
        have hm4 := hmx'.off l4
        obtain ⟨g4, n1, n2⟩ := id hm4
        obtain ⟨gh, t1, t2, t3⟩ := id h4
        simp only [n1, codeOk, elK, t1, cup_of n1, Int.toNat_natCast]
        refine ⟨⟨by decide, by decide⟩, ⟨by omega, by omega⟩, trivial, ?_⟩
        rw [show (b : Int) + 1 = ((b + 1 : Nat) : Int) by omega]
        refine ih (b + 1) _ _ p1 _ (s.1 + wJ 2 L a b, addm 2 (wJ 2 L a b) a b s.2) _ hb' (by omega) (by omega) ⟨(hlx.tr l4).set hq12, (hVx.off l4).othz n1 (by decide) hne, ?_, (hm4.up (k := b) n1 h4).cgw fun k hk => ?_⟩ hf
        · show FL _ p1 (frK (s.1 + wJ 2 L a b) D)
          rw [← frK_add, ← ei]
          exact (h1x.kept l4 zzL).oth n1 (by decide)
        · show (if k = b then frK (s.2 b + if b = a then wJ 2 L a b else 0) D + lq a * lq b else frK (s.2 k + if k = a then wJ 2 L a b else 0) D) = frK ((s.2 k + if k = a then wJ 2 L a b else 0) + if 2 = 2 ∧ k = b then wJ 2 L a b else 0) D
          by_cases e : k = b
          · have e5 : (if 2 = 2 ∧ b = b then wJ 2 L a b else 0) = wJ 2 L a b := if_pos ⟨rfl, rfl⟩
            rw [if_pos e, e, e5, ei, frK_add]
          · have e5 : (if 2 = 2 ∧ k = b then wJ 2 L a b else 0) = 0 := if_neg fun w => e w.2
            rw [if_neg e, e5, Nat.add_zero]
    refine b_W_isClosedNet_255 ⟨⟨by omega, by omega⟩, fun z => ?_, fun z => ?_⟩
    · rw [if_neg (by omega)] at hb
      exact ⟨⟨by omega, by omega⟩, ⟨by omega, by omega⟩, fun w => absurd w (by omega), fun _ => l265⟩
    · rw [if_pos (by omega)] at hb
      exact ⟨⟨by omega, by omega⟩, ⟨by omega, by omega⟩, fun w => absurd w (by omega), fun _ => l265⟩
theorem cl_250 (hn : 1 ≤ n ∧ n ≤ 3) (hJ : J = 1 ∨ J = 2) (hK : 0 < K ∧ K ≤ 110592) (hD : D = if J = 2 then K * K else K) (hL : ∀ i, i < n → lq i = frK (L i) K) (hB : ∀ i, i < n → Bq (lq i) 64 768) (hq12 : (C2 q12).1 = 0) (hne : q12 ≠ q) (hF1 : F.1 ≤ 509607936) (hF2 : ∀ k, k < n → F.2 k ≤ 339738624)
    (hN : ∀ (C : LMem) (kc' p : Nat) (R : Nat → Nat) (o10 o14 o15 : Option PV), kc' ≤ 1400 → SMq C2 q q12 n D lq Rq p R F C → L_W_isClosedNet_309 (d + 131) Q M C kc' o1 o2 o3 o4 (n : Int) o6 o7 (J : Int) o9 o10 (p + 1) q12 0 o14 o15) :
    ∀ (v a : Nat) (C : LMem) (kc p : Nat) (R : Nat → Nat) (s : Nat × (Nat → Nat)) (o14 o15 : Option PV), a + v = n → kc + 12 * v ≤ 1400 → SMq C2 q q12 n D lq Rq p R s C → fO J n L v a s = F → L_W_isClosedNet_250 (d + 131) Q M C kc o1 o2 o3 o4 (n : Int) o6 o7 (J : Int) o9 (q + 1) (p + 1) q12 (a : Int) o14 o15 := by
  intro v
  induction v with
  | zero =>
    intro a C kc p R s o14 o15 ha hkc hS hf
    obtain rfl : a = n := by omega
    have hf : s = F := hf
    subst hf
    exact b_W_isClosedNet_250 ⟨⟨by omega, by omega⟩, ⟨by omega, by omega⟩, fun _ => hN C kc p R _ _ _ (by omega) hS, fun z => absurd (Int.le_refl _) z⟩
  | succ v ih =>
    intro a C kc p R s o14 o15 ha hkc hS hf
    have ha9 : a < n := by omega
    refine b_W_isClosedNet_250 ⟨⟨by omega, by omega⟩, ⟨by omega, by omega⟩, fun z => absurd z (by omega), fun _ => ?_⟩
    refine cl_255 (v := v) (kc0 := kc) hn hJ hK hD hL hB hq12 hne hF1 hF2 ha9 (by omega) (fun C kc' p R s o14 o15 z1 z2 z3 => ?_) (if J = 2 then n - a else 1) a C kc p R s _ ?_ (Nat.le_refl a) ?_ hS hf
    · rw [show (a : Int) + 1 = ((a + 1 : Nat) : Int) by omega]
      exact ih (a + 1) C kc' p R s _ _ (by omega) (by omega) z2 z3
    · split <;> omega
    · split <;> omega
end CLD
