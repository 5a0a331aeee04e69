/-! isNet: the rates. -/
theorem le_num {x : Rat} {s : Int} : x ≤ ((s : Int) : Rat) ↔ x.num ≤ s * (x.den : Int) := by
  rw [Rat.le_iff, Rat.num_intCast, Rat.den_intCast]
  show x.num * 1 ≤ _ ↔ _
  rw [Int.mul_one]
theorem lt_num {x : Rat} {s : Int} : x < ((s : Int) : Rat) ↔ x.num < s * (x.den : Int) := by
  rw [Rat.lt_iff, Rat.num_intCast, Rat.den_intCast]
  show x.num * 1 < _ ↔ _
  rw [Int.mul_one]
theorem nt_known {n : Nat} {cm sv Cc Ss : Nat → Int} {Tp Aa : Nat → Nat → Int} {f : Nat → Bool} (h : NIv n n cm sv Tp Cc Ss Aa) {r : Nat} (hr : r < n) : ∀ k, k ≤ n → known Cc Ss Aa f r k = known cm sv (p25 Tp) f r k
  | 0, _ => by
    show 100 * Cc r = 100 * cm r
    rw [(h.1 r hr).1.1]
  | k + 1, hk => by
    show known Cc Ss Aa f r k + (if f k = true then Ss k * Aa k r else 0) = known cm sv (p25 Tp) f r k + (if f k = true then sv k * (25 * Tp k r) else 0)
    rw [nt_known h hr k (by omega), (h.1 k (by omega)).1.2, h.2.2 k r (by omega) hr]
theorem nt_cells {n : Nat} {cm sv Cc Ss : Nat → Int} {Tp Aa : Nat → Nat → Int} {f : Nat → Bool} (h : NIv n n cm sv Tp Cc Ss Aa) {a c : Nat} (ha : a < n) (hc : c ≤ n) : ntQ n Cc Ss Aa f a c = ntQ n cm sv (p25 Tp) f a c := by
  show ((ntN n Cc Ss Aa f a c : Int) : Rat) = ((ntN n cm sv (p25 Tp) f a c : Int) : Rat)
  unfold ntN
  by_cases e : c = n
  · rw [if_pos e, if_pos e, nt_known h ha n (Nat.le_refl n)]
  · rw [if_neg e, if_neg e, h.2.2 c a (by omega) ha]
theorem nt_D {n : Nat} {cm sv Cc Ss : Nat → Int} {Tp Aa : Nat → Nat → Int} {f : Nat → Bool} (h : NIv n n cm sv Tp Cc Ss Aa) {j : Nat} (hj : j ≤ n) : Dd (ntQ n Cc Ss Aa f) j = Dd (ntQ n cm sv (p25 Tp) f) j := by
  unfold Dd
  rw [wed_cells (R' := ntQ n cm sv (p25 Tp) f) j fun a c ha hc => nt_cells h (by omega) (by omega)]
theorem nt_ns {n : Nat} {cm sv Cc Ss : Nat → Int} {Tp Aa : Nat → Nat → Int} {f : Nat → Bool} (h : NIv n n cm sv Tp Cc Ss Aa) {i : Nat} (hi : i < n) : nsQ n Cc Ss Aa f i = nsQ n cm sv (p25 Tp) f i := by
  show wed n (colR (ntQ n Cc Ss Aa f) (fc i n)) n (full n) / Dd (ntQ n Cc Ss Aa f) n = wed n (colR (ntQ n cm sv (p25 Tp) f) (fc i n)) n (full n) / Dd (ntQ n cm sv (p25 Tp) f) n
  rw [nt_D h (Nat.le_refl n), wed_cells (R := colR (ntQ n Cc Ss Aa f) (fc i n)) (R' := colR (ntQ n cm sv (p25 Tp) f) (fc i n)) n fun a c ha hc => nt_cells h ha (by show (if c = i then n else c) ≤ n; split <;> omega)]
theorem NIv.sm {n : Nat} {cm sv Cc Ss : Nat → Int} {Tp Aa : Nat → Nat → Int} (h : NIv n n cm sv Tp Cc Ss Aa) (hT : TIv n n Tp) (hn : 1 ≤ n ∧ n ≤ 3) : nSm n cm sv Tp := ⟨hn, fun i hi => (h.1 i hi).2.1, fun i hi => (h.1 i hi).2.2, hT.1⟩
theorem nt_bq {n : Nat} {cm sv Cc Ss : Nat → Int} {Tp Aa : Nat → Nat → Int} (h : NIv n n cm sv Tp Cc Ss Aa) (hT : TIv n n Tp) (hn : 1 ≤ n ∧ n ≤ 3) (hO : nOk n Cc Ss Aa) (hR : ratesOk n Aa) (f : Nat → Bool) {i : Nat} (hi : i < n) : Bq (nsQ n Cc Ss Aa f i) 76032 1728 := by
  rw [nt_ns h hi, ← flT_ans]
  exact ans_bq hn.2 hi (flT_nT (h.sm hT hn)) (flT_D (fun j hj => by rw [← nt_D h hj]; exact (net_pos hO hR f).1 j hj) n (Nat.le_refl n))
theorem g_stop {n : Nat} {C S : Nat → Int} {A : Nat → Nat → Int} (hn : n ≤ 3) : gStop n C S A n := by
  have step : ∀ t k, gSeq n C S A t k = false → gSeq n C S A (t + 1) k = false := fun t k h => by
    show (gSeq n C S A t k && !(decide (nsQ n C S A (gSeq n C S A t) k ≤ ((S k : Int) : Rat)))) = false
    rw [h, Bool.false_and]
  have st : ∀ t, (∀ x, x < n → gSeq n C S A (t + 1) x = false → gSeq n C S A t x = false) → gStop n C S A t := fun t h k hk => by
    cases h1 : gSeq n C S A t k
    · exact step t k h1
    · cases h2 : gSeq n C S A (t + 1) k
      · rw [h k hk h2] at h1
        cases h1
      · rfl
  refine st n (chain_stop (S := fun t x => gSeq n C S A t x = false) hn step fun t h x hx h2 => ?_)
  have h3 := st t h
  have e1 := gSeq_stay h3 1 x hx
  have e2 := gSeq_stay h3 2 x hx
  show gSeq n C S A (t + 1) x = false
  rw [e1, ← e2]
  exact h2
theorem VQ.cgw {C : LMem} {q n m : Nat} {R : Nat → Nat} {w w' : Nat → Rat} (h : VQ C q n m R w) (e : ∀ i, i < m → w i = w' i) : VQ C q n m R w' := by
  obtain ⟨f, h1, h2⟩ := h
  exact ⟨f, h1, fun i hi => by rw [← e i hi]; exact h2 i hi⟩
section RAT1
variable {d : Nat} {Q : LQ} {M : Mem} {C0 : LMem} {r r4 r5 r6 n : Nat} {Pp : Nat → Nat} {cm sv Cc Ss : Nat → Int} {Tp Aa : Nat → Nat → Int} {o3 o7 o8 : Option PV} {q9 : Nat} {R9 : Nat → Nat} {w9 : Nat → Rat}
/-- who is not full, as bits -/
def thB (n : Nat) (Cc Ss : Nat → Int) (Aa : Nat → Nat → Int) (p k th : Nat) : Prop := th < 2 ^ n ∧ ∀ x, x < n → th.testBit x = if x < k then !(gSeq n Cc Ss Aa (p + 1) x) else !(gSeq n Cc Ss Aa p x)
theorem nt_290 (hn : 1 ≤ n ∧ n ≤ 3) (hI : NIv n n cm sv Tp Cc Ss Aa) (hT : TIv n n Tp) (hO : nOk n Cc Ss Aa) (hR : ratesOk n Aa) {p : Nat} {C : LMem} {q11 : Nat} {R11 : Nat → Nat} {kc : Nat} (hkc : kc ≤ 6000) (hW : NWq C0 r r4 r5 r6 n Pp cm sv Tp C) (h9 : VQ C q9 n n R9 w9) (h11 : VQ C q11 n n R11 (fun i => nsQ n Cc Ss Aa (gSeq n Cc Ss Aa p) i))
    (hN : ∀ (C : LMem) (th q11 : Nat) (R11 : Nat → Nat) (o13 : Option PV), NWq C0 r r4 r5 r6 n Pp cm sv Tp C → VQ C q9 n n R9 w9 → VQ C q11 n n R11 (fun i => nsQ n Cc Ss Aa (gSeq n Cc Ss Aa (p + 1)) i) → thB n Cc Ss Aa (p + 1) 0 th → L_W_isNet_285 (d + 132) Q M C (kc + 1200) r (n : Int) o3 r4 r5 r6 o7 o8 (q9 + 1) (th : Int) (q11 + 1) ((p : Int) + 1) o13 none none none none) :
    ∀ (u k th : Nat), k + u = n → thB n Cc Ss Aa p k th → L_W_isNet_290 (d + 132) Q M C kc r (n : Int) o3 r4 r5 r6 o7 o8 (q9 + 1) (th : Int) (q11 + 1) (p : Int) (k : Int) none none none none := by
  have p8 := pow_8 hn.2
  have hsm := hI.sm hT hn
  intro u
  induction u with
  | zero =>
    intro k th hk hth
    obtain rfl : k = n := by omega
    have t8 : th < 8 := Nat.lt_of_lt_of_le hth.1 p8
    refine b_W_isNet_290 ⟨⟨by omega, by omega⟩, ⟨by omega, by omega⟩, fun _ => ⟨by omega, ?_⟩, fun z => absurd (Int.le_refl _) z⟩
    have ef : ∀ x, x < k → fT th x = gSeq k Cc Ss Aa (p + 1) x := fun x hx => by
      have := hth.2 x hx
      rw [if_pos hx] at this
      show (!(th.testBit x)) = _
      rw [this, Bool.not_not]
    refine s_flows (d := d + 1) hsm t8 (fun j hj => by rw [← nt_D hI hj]; exact (net_pos hO hR _).1 j hj) hW.2.1 _ ?_
    rintro v m c ⟨rfl, q', R', rfl, l1, hq, hV⟩
    rw [Int.toNat_natCast]
    refine hN c th q' R' _ (hW.off l1) (h9.off l1) (hV.cgw fun i hi => ?_) ⟨hth.1, fun x hx => ?_⟩
    · rw [← nt_ns hI hi]
      exact nsQ_congr ef hi
    · have := hth.2 x hx
      rw [if_pos hx] at this
      rw [if_neg (Nat.not_lt_zero x)]
      exact this
  | succ u ih =>
    intro k th hk hth
    have hk9 : k < n := by omega
    have t8 : th < 8 := Nat.lt_of_lt_of_le hth.1 p8
    obtain ⟨-, ⟨-, ⟨f5, b1, b2⟩, -⟩, -⟩ := id hW
    obtain ⟨f, v1, v2⟩ := id h11
    obtain ⟨v3, gx, x1, x2, x3⟩ := v2 k hk9
    have hS := (hI.1 k hk9)
    have hB := nt_bq hI hT hn hO hR (gSeq n Cc Ss Aa p) hk9
    have hle := le_num (x := nsQ n Cc Ss Aa (gSeq n Cc Ss Aa p) k) (s := Ss k)
    rw [hS.1.2] at hle
    have o1 := hB.ok (by decide) (by decide)
    have hden := (nsQ n Cc Ss Aa (gSeq n Cc Ss Aa p) k).den_pos
    obtain ⟨u1, u2⟩ := id hB
    have eg : gSeq n Cc Ss Aa (p + 1) k = (gSeq n Cc Ss Aa p k && !(decide (nsQ n Cc Ss Aa (gSeq n Cc Ss Aa p) k ≤ ((Ss k : Int) : Rat)))) := rfl
    rw [hS.1.2] at eg
    have hold := hth.2 k hk9
    rw [if_neg (Nat.lt_irrefl k)] at hold
    have x2 : gx 0 = (nsQ n Cc Ss Aa (gSeq n Cc Ss Aa p) k).num := x2
    have x3 : gx 1 = ((nsQ n Cc Ss Aa (gSeq n Cc Ss Aa p) k).den : Int) := x3
    generalize nsQ n Cc Ss Aa (gSeq n Cc Ss Aa p) k = X at *
    have p0 : 0 ≤ sv k * (X.den : Int) := Int.mul_nonneg (by omega) (by omega)
    have p1 : sv k * (X.den : Int) ≤ 12 * 1728 := Int.mul_le_mul (by omega) (by omega) (by omega) (by decide)
    refine b_W_isNet_290 ⟨⟨by omega, by omega⟩, ⟨by omega, by omega⟩, fun z => absurd z (by omega), fun _ => ?_⟩
    simp only [cellAt, v1, v3, Int.toNat_natCast, x1, x2, x3, b1, b2 k hk9]
    rw [show (k : Int) + 1 = ((k + 1 : Nat) : Int) by omega]
    refine ⟨⟨by decide, by decide⟩, ⟨by omega, by omega⟩, trivial, ⟨by decide, by decide⟩, trivial, ⟨by omega, by omega⟩, ⟨by omega, by omega⟩, ⟨by decide, by decide⟩, ⟨by omega, by omega⟩, trivial, ⟨by decide, by decide⟩, ⟨by omega, by omega⟩, ⟨by omega, by omega⟩, fun z => ?_, fun z => ⟨⟨by omega, by omega⟩, ?_⟩⟩
    · refine ih (k + 1) th (by omega) ⟨hth.1, fun x hx => ?_⟩
      by_cases e : x = k
      · rw [e, if_pos (Nat.lt_succ_self k), hold, eg, decide_eq_false (fun w => by have := hle.mp w; omega)]
        simp
      · rw [hth.2 x hx]
        by_cases y : x < k
        · rw [if_pos y, if_pos (by omega)]
        · rw [if_neg y, if_neg (by omega)]
    · obtain ⟨e1, e2⟩ := p2i k (by omega)
      rw [e1, zor_nat (by omega) (by omega)]
      refine ih (k + 1) _ (by omega) ⟨or_lt2 hth.1 hk9, fun x hx => ?_⟩
      rw [or_bit]
      by_cases e : x = k
      · rw [e, if_pos (Nat.lt_succ_self k), eg, decide_eq_true (hle.mpr (by omega))]
        simp
      · rw [hth.2 x hx, decide_eq_false (fun w => e w.symm), Bool.or_false]
        by_cases y : x < k
        · rw [if_pos y, if_pos (by omega)]
        · rw [if_neg y, if_neg (by omega)]
theorem nt_285 (hn : 1 ≤ n ∧ n ≤ 3) (hI : NIv n n cm sv Tp Cc Ss Aa) (hT : TIv n n Tp) (hO : nOk n Cc Ss Aa) (hR : ratesOk n Aa)
    (hN : ∀ (C : LMem) (kc' : Nat) (q11 : Nat) (R11 : Nat → Nat) (o10 o13 : Option PV), kc' ≤ 6200 → NWq C0 r r4 r5 r6 n Pp cm sv Tp C → VQ C q9 n n R9 w9 → VQ C q11 n n R11 (fun i => nsQ n Cc Ss Aa (gSeq n Cc Ss Aa n) i) → L_W_isNet_329 (d + 132) Q M C kc' r (n : Int) o3 r4 r5 r6 o7 o8 (q9 + 1) o10 (q11 + 1) 0 o13 none none none none) :
    ∀ (u p : Nat) (C : LMem) (kc th q11 : Nat) (R11 : Nat → Nat) (o13 : Option PV), p + u = n → kc + 1200 * u ≤ 6200 → NWq C0 r r4 r5 r6 n Pp cm sv Tp C → VQ C q9 n n R9 w9 → VQ C q11 n n R11 (fun i => nsQ n Cc Ss Aa (gSeq n Cc Ss Aa p) i) → thB n Cc Ss Aa p 0 th → L_W_isNet_285 (d + 132) Q M C kc r (n : Int) o3 r4 r5 r6 o7 o8 (q9 + 1) (th : Int) (q11 + 1) (p : Int) o13 none none none none := by
  intro u
  induction u with
  | zero =>
    intro p C kc th q11 R11 o13 hp hkc hW h9 h11 hth
    obtain rfl : p = n := by omega
    exact b_W_isNet_285 ⟨⟨by omega, by omega⟩, ⟨by omega, by omega⟩, fun _ => hN C kc q11 R11 _ _ (by omega) hW h9 h11, fun z => absurd (Int.le_refl _) z⟩
  | succ u ih =>
    intro p C kc th q11 R11 o13 hp hkc hW h9 h11 hth
    refine b_W_isNet_285 ⟨⟨by omega, by omega⟩, ⟨by omega, by omega⟩, fun z => absurd z (by omega), fun _ => ?_⟩
    refine nt_290 hn hI hT hO hR (by omega) hW h9 h11 (fun C th q11 R11 o13 z1 z2 z3 z4 => ?_) n 0 th (by omega) hth
    rw [show (p : Int) + 1 = ((p + 1 : Nat) : Int) by omega]
    exact ih (p + 1) C _ th q11 R11 _ (by omega) (by omega) z1 z2 z3 z4
end RAT1
section RAT2
variable {d : Nat} {Q : LQ} {C0 : LMem} {j : StJ} {l : StL} {c : StC} {e : StE} {g : StG} {h : StH} {t : StT} {r r4 r5 r6 n : Nat} {Pp : Nat → Nat} {cm sv Cc Ss : Nat → Int} {Tp Aa : Nat → Nat → Int} {o3 o7 o8 o10 : Option PV} {q9 q11 : Nat} {R9 R11 : Nat → Nat}
def RWq (C0 : LMem) (r r4 r5 r6 n : Nat) (Pp : Nat → Nat) (cm sv : Nat → Int) (Tp : Nat → Nat → Int) (Cc Ss : Nat → Int) (Aa : Nat → Nat → Int) (q9 q11 : Nat) (R9 R11 : Nat → Nat) (C : LMem) : Prop := NWq C0 r r4 r5 r6 n Pp cm sv Tp C ∧ VQ C q9 n n R9 (fun i => rtQ n Cc Ss Aa i) ∧ VQ C q11 n n R11 (fun i => nsQ n Cc Ss Aa (gSeq n Cc Ss Aa n) i)
theorem RWq.off {C C' : LMem} (w : RWq C0 r r4 r5 r6 n Pp cm sv Tp Cc Ss Aa q9 q11 R9 R11 C) (hf : LF [] C C') : RWq C0 r r4 r5 r6 n Pp cm sv Tp Cc Ss Aa q9 q11 R9 R11 C' := ⟨w.1.off hf, w.2.1.off hf, w.2.2.off hf⟩
theorem i_one {x : Int} : ((x : Int) : Rat) / ((1 : Int) : Rat) = ((x : Int) : Rat) := by
  have e1 : ((1 : Int) : Rat) = 1 := rfl
  rw [e1]
  generalize ((x : Int) : Rat) = y
  grind
theorem neg_fr {x : Rat} : (((-x.num : Int)) : Rat) / ((x.den : Int) : Rat) = -x := by
  have h1 := R_val (x := x)
  have h4 := den_ne (x := x)
  rw [Rat.intCast_neg]
  generalize ((x.den : Int) : Rat) = a at *
  generalize ((x.num : Int) : Rat) = b at *
  rw [← h1]
  grind
theorem Bq.neg {x : Rat} {U W : Nat} (h : Bq x U W) : Bq (-x) U W := ⟨by rw [Rat.neg_num, Int.natAbs_neg]; exact h.1, h.2⟩
theorem nt_418 (hn : 1 ≤ n ∧ n ≤ 3) (hI : NIv n n cm sv Tp Cc Ss Aa) (hT : TIv n n Tp) (hO : nOk n Cc Ss Aa) (hR : ratesOk n Aa) {a : Nat} (ha : a < n) {i13 : Int} (h13 : (i13 = 1 ∧ rtQ n Cc Ss Aa a < ((Ss a : Int) : Rat)) ∨ (i13 = 0 ∧ ¬ rtQ n Cc Ss Aa a < ((Ss a : Int) : Rat))) {M : Mem} {C : LMem} {kc : Nat} {o14 o15 o16 o17 : Option PV} (hkc : kc ≤ 6500) (q : IQ j l c (n, Cc, Ss, Aa) e g h t M) (hW : RWq C0 r r4 r5 r6 n Pp cm sv Tp Cc Ss Aa q9 q11 R9 R11 C)
    (hN : ∀ (M : Mem) (C : LMem) (kc' : Nat) (o13 o14 o15 o16 o17 : Option PV), kc' ≤ kc + 20 → IQ j l c (n, Cc, Ss, Aa) e g h t M → RWq C0 r r4 r5 r6 n Pp cm sv Tp Cc Ss Aa q9 q11 R9 R11 C → L_W_isNet_329 (d + 132) Q M C kc' r (n : Int) o3 r4 r5 r6 o7 o8 (q9 + 1) o10 (q11 + 1) ((a : Int) + 1) o13 o14 o15 o16 o17) :
    L_W_isNet_418 (d + 132) Q M C kc r (n : Int) o3 r4 r5 r6 o7 o8 (q9 + 1) o10 (q11 + 1) (a : Int) i13 o14 o15 o16 o17 := by
  have r0 : R32 0 := ⟨by decide, by decide⟩
  obtain ⟨⟨-, ⟨-, ⟨f5, b1, b2⟩, -⟩, -⟩, ⟨f, v1, v2⟩, -⟩ := id hW
  obtain ⟨v3, v4⟩ := v2 a ha
  have v4 : FL C (R9 a) (rtQ n Cc Ss Aa a) := v4
  have hS := hI.1 a ha
  have hx : Bq (rtQ n Cc Ss Aa a) 76032 1728 := nt_bq hI hT hn hO hR _ ha
  have hs0 : ((sv a : Int) : Rat) ≠ 0 := int_ne (by omega)
  have BS : Bq ((sv a : Int) : Rat) 12 1 := (Bq_int (sv a)).mono (by omega) (Nat.le_refl 1)
  have BL9 : Bq (rtQ n Cc Ss Aa a / ((sv a : Int) : Rat)) 76032 20736 := (hx.div BS hs0).mono (by decide) (by decide)
  have eld : ldQ n Cc Ss Aa a = rtQ n Cc Ss Aa a / ((sv a : Int) : Rat) := by
    unfold ldQ
    rw [hS.1.2]
  have B1 : Bq (1 : Rat) 1 1 := ⟨by decide, by decide⟩
  have BR : Bq (1 + -(rtQ n Cc Ss Aa a / ((sv a : Int) : Rat))) 96768 20736 := (B1.add BL9.neg).mono (by decide) (by decide)
  refine b_W_isNet_418 ?_
  simp only [cellAt, v1, v3, Int.toNat_natCast, b1, b2 a ha]
  refine ⟨⟨by decide, by decide⟩, ⟨by omega, by omega⟩, trivial, ⟨by omega, by omega⟩, ⟨by omega, by omega⟩, by omega, ?_⟩
  refine s_of (d := d + 4) (by unfold A63; omega) (by unfold A63; decide) (by decide) _ ?_
  rintro w1 M1 C1 ⟨rfl, p1, rfl, -, l1, h1⟩
  rw [i_one] at h1
  refine ⟨by omega, ?_⟩
  rw [Int.toNat_natCast]
  refine s_by (d := d + 3) (v4.kept l1 zzL) h1 (hx.okD BS (by decide) (by decide) hs0) _ ?_
  rintro w2 M2 C2 ⟨rfl, p2, rfl, -, l2, h2⟩
  obtain ⟨gl, y1, y2, y3⟩ := id h2
  have ol := BL9.ok (by decide) (by decide)
  have hden := (rtQ n Cc Ss Aa a / ((sv a : Int) : Rat)).den_pos
  refine ⟨by omega, ?_⟩
  refine s_of (d := d + 4) (by unfold A63; decide) (by unfold A63; decide) (by decide) _ ?_
  rintro w3 M3 C3 ⟨rfl, p3, rfl, -, l3, h3⟩
  have e11 : ((1 : Int) : Rat) / ((1 : Int) : Rat) = 1 := by decide +kernel
  rw [e11] at h3
  have y1' := l3.at' (k := 1) zzL y1
  simp only [Int.toNat_natCast, cellAt, y1', y2, y3]
  have ol1 := ol.1
  have ol2 := ol.2
  unfold A63 at ol1
  refine ⟨trivial, ⟨by decide, by decide⟩, trivial, ⟨by decide, by decide⟩, by omega, ?_⟩
  refine s_of (d := d + 4) (by unfold A63; omega) (by unfold A63; omega) (by omega) _ ?_
  rintro w4 M4 C4 ⟨rfl, p4, rfl, -, l4, h4⟩
  rw [neg_fr] at h4
  refine ⟨by omega, ?_⟩
  rw [Int.toNat_natCast]
  refine s_sum (d := d + 3) (h3.kept l4 zzL) h4 (B1.okS BL9.neg (by decide) (by decide)) _ ?_
  rintro w5 M5 C5 ⟨rfl, p5, rfl, -, l5, h5⟩
  have L5 := (((l1.tr l2).tr l3).tr l4).tr l5
  have hl5 := ((h2.kept l3 zzL).kept l4 zzL).kept l5 zzL
  refine ⟨by omega, ?_⟩
  refine c_numbers q (a := (a : Int)) (b := -1) (y := 0) (z := 0) ⟨by omega, by show (a : Int) < (n : Int); omega⟩ ⟨by decide, by decide⟩ r0 r0 _ ?_
  rintro w6 M6 C6 ⟨rfl, q6, h6⟩
  rw [Int.toNat_natCast] at h6
  rcases h13 with ⟨rfl, hlt⟩ | ⟨rfl, hlt⟩
  · rcases h6 with ⟨z, -⟩ | ⟨-, hc6, hv6⟩
    · exact absurd ⟨hR, hlt⟩ z
    have hc6 : CF M6 (nmQ (ldQ n Cc Ss Aa a) (-1)) := hc6
    have hv6 : w6 = (nmQ (ldQ n Cc Ss Aa a) (-1)).num.sign := hv6
    have en : nmQ (ldQ n Cc Ss Aa a) (-1) = rtQ n Cc Ss Aa a / ((sv a : Int) : Rat) / (1 + -(rtQ n Cc Ss Aa a / ((sv a : Int) : Rat))) := by
      unfold nmQ
      rw [if_pos rfl, eld]
      congr 1
      generalize rtQ n Cc Ss Aa a / ((sv a : Int) : Rat) = x
      grind
    rw [en] at hc6 hv6
    have hr0 : 1 + -(rtQ n Cc Ss Aa a / ((sv a : Int) : Rat)) ≠ 0 := fun z => by
      rw [hS.1.2] at hlt
      have hp : (0 : Rat) < ((sv a : Int) : Rat) := cast_pos (by omega)
      have : rtQ n Cc Ss Aa a = ((sv a : Int) : Rat) := by
        generalize rtQ n Cc Ss Aa a = x at *
        generalize ((sv a : Int) : Rat) = y at *
        have : x / y = 1 := by grind
        grind
      rw [this] at hlt
      exact absurd hlt (Rat.lt_irrefl)
    refine ⟨⟨by decide, by decide⟩, fun _ => ⟨by omega, ?_⟩, fun z => absurd (by decide) z⟩
    simp only [Int.toNat_natCast]
    refine s_by (d := d + 3) hl5 h5 (BL9.okD BR (by decide) (by decide) hr0) _ ?_
    rintro w7 M7 C7 ⟨rfl, p7, rfl, -, l7, h7⟩
    rw [hv6]
    refine ⟨by omega, ?_⟩
    rw [Int.toNat_natCast]
    refine s_isCame (d := d + 2) hc6 ((BL9.div BR hr0).ok (by decide) (by decide)) h7 _ ?_
    rintro w8 M8 C8 ⟨rfl, rfl, l8⟩
    refine ⟨⟨by decide, by decide⟩, fun z => absurd z (by decide), fun _ => ⟨by omega, ?_⟩⟩
    refine c_numbers q6 (a := (a : Int)) (b := 1) (y := 0) (z := 0) ⟨by omega, by show (a : Int) < (n : Int); omega⟩ ⟨by decide, by decide⟩ r0 r0 _ ?_
    rintro w9 M9 C9 ⟨rfl, q9', h9⟩
    rw [Int.toNat_natCast] at h9
    rcases h9 with ⟨z, -⟩ | ⟨-, hc9, hv9⟩
    · exact absurd ⟨hR, hlt⟩ z
    have hc9 : CF M9 (nmQ (ldQ n Cc Ss Aa a) 1) := hc9
    have hv9 : w9 = (nmQ (ldQ n Cc Ss Aa a) 1).num.sign := hv9
    have en9 : nmQ (ldQ n Cc Ss Aa a) 1 = rtQ n Cc Ss Aa a / ((sv a : Int) : Rat) * (1 + -(rtQ n Cc Ss Aa a / ((sv a : Int) : Rat))) := by
      unfold nmQ
      rw [if_neg (by decide), eld]
      show (1 - rtQ n Cc Ss Aa a / ((sv a : Int) : Rat)) * (rtQ n Cc Ss Aa a / ((sv a : Int) : Rat)) = _
      generalize rtQ n Cc Ss Aa a / ((sv a : Int) : Rat) = x
      grind
    rw [en9] at hc9 hv9
    refine ⟨by omega, ?_⟩
    have L8 := l7.tr l8
    refine s_times (d := d + 3) (hl5.kept L8 zzL) (h5.kept L8 zzL) (BL9.okT BR (by decide) (by decide)) _ ?_
    rintro w10 M10 C10 ⟨rfl, p10, rfl, -, l10, h10⟩
    rw [hv9]
    refine ⟨by omega, ?_⟩
    rw [Int.toNat_natCast]
    refine s_isCame (d := d + 2) hc9 ((BL9.mul BR).ok (by decide) (by decide)) h10 _ ?_
    rintro w11 M11 C11 ⟨rfl, rfl, l11⟩
    exact ⟨⟨by decide, by decide⟩, fun _ => hN _ _ _ _ _ _ _ _ (by omega) q9' (hW.off (((L5.tr L8).tr l10).tr l11)), fun z => absurd (by decide) z⟩
  · rcases h6 with ⟨-, hv6⟩ | ⟨z, -⟩
    · subst hv6
      exact ⟨⟨by decide, by decide⟩, fun z => absurd rfl z, fun _ => ⟨⟨by decide, by decide⟩, fun _ => hN _ _ _ _ _ _ _ _ (by omega) q6 (hW.off L5), fun z => absurd rfl z⟩⟩
    · exact absurd z.2 hlt
end RAT2
