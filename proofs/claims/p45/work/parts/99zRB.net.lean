/-! isNet, out of isClosedNet. -/
/-- what isClosedNet is asked -/
def ClosedOK (d : Nat) : Prop := ∀ {M : Mem} {C0 C : LMem} {j : StJ} {l : StL} {c : StC} {e : StE} {g : StG} {h : StH} {t : StT} {r r4 r5 r6 n : Nat} {Pp : Nat → Nat} {cm sv Cc Ss : Nat → Int} {Tp Aa : Nat → Nat → Int}, (1 ≤ n ∧ n ≤ 3) → IQ j l c (n, Cc, Ss, Aa) e g h t M → NWq C0 r r4 r5 r6 n Pp cm sv Tp C → NIv n n cm sv Tp Cc Ss Aa → TIv n n Tp → LPo d cW_isClosedNet [oH, .inr (.inr (.inl (r + 1))), .inr (.inr (.inl (r4 + 1))), .inr (.inr (.inl (r5 + 1))), .inr (.inr (.inl (r6 + 1))), .inl (n : Int)] M C (fun v m c' => v = 1 ∧ IQ j l c (n, Cc, Ss, Aa) e g h t m ∧ CBq C0 r c')
theorem c_net2 {M : Mem} {C : LMem} {j : StJ} {l : StL} {c : StC} {n : StN} {e : StE} {g : StG} {h : StH} {t : StT} {d : Nat} {m9 x y z : Int} (q : IQ j l c n e g h t M) (hm : 1 ≤ m9 ∧ m9 ≤ 4) (hx : R32 x) (hy : R32 y) (hz : R32 z) : LPo (d + 1) cW_done [oH, .inl 13, .inl m9, .inl x, .inl y, .inl z] M C (fun v m c' => c' = C ∧ (1 ≤ v ∧ v ≤ 4) ∧ IQ j l c (m9.toNat, fun _ => 0, fun _ => 1, fun _ _ => 0) e g h t m) := by
  refine (dn (w := 13) (a := m9) (b := x) (c := y) (e := z) (M := M) (C := C) (d := d) ⟨⟨by omega, by omega⟩, by omega⟩ ⟨⟨by omega, by omega⟩, hx⟩ ⟨hy, hz⟩ (s_Qnet (d := 9) ⟨by omega, by omega⟩) ?_).imp ?_
  · rintro r m (⟨-, rfl, -⟩ | ⟨-, rfl, -⟩)
    · exact xOk2
    · trivial
  · rintro v m c' ⟨rfl, r, hr, rfl⟩
    rcases hr with ⟨z, -⟩ | ⟨-, rfl, f, hN⟩
    · exact absurd hm z
    · refine ⟨rfl, ?_, q.netO f (by decide) ⟨nOk_new (n := m9.toNat) ⟨by omega, by omega⟩, hN⟩⟩
      show 1 ≤ M 142 0 ∧ M 142 0 ≤ 4
      have h1 := q.nt.2.1
      have h2 := q.nt.1.1
      omega
section NET4
variable {d : Nat} {Q : LQ} {C0 : LMem} {j : StJ} {l : StL} {c : StC} {e : StE} {g : StG} {h : StH} {t : StT} {r r4 r5 r6 n : Nat} {Pp : Nat → Nat} {cm sv Cc Ss : Nat → Int} {Tp Aa : Nat → Nat → Int} {o3 o7 o8 o10 : Option PV} {q9 q11 : Nat} {R9 R11 : Nat → Nat}
theorem nt_383 (hn : 1 ≤ n ∧ n ≤ 3) (hI : NIv n n cm sv Tp Cc Ss Aa) (hT : TIv n n Tp) (hO : nOk n Cc Ss Aa) (hR : ratesOk n Aa) {a : Nat} (ha : a < n) {i13 : Int} (h13 : (i13 = 1 ∧ rtQ n Cc Ss Aa a < ((Ss a : Int) : Rat)) ∨ (i13 = 0 ∧ ¬ rtQ n Cc Ss Aa a < ((Ss a : Int) : Rat))) {M : Mem} {C : LMem} {kc : Nat} {o14 o15 o16 o17 : Option PV} (hkc : kc ≤ 6450) (q : IQ j l c (n, Cc, Ss, Aa) e g h t M) (hW : RWq C0 r r4 r5 r6 n Pp cm sv Tp Cc Ss Aa q9 q11 R9 R11 C)
    (hN : ∀ (M : Mem) (C : LMem) (kc' : Nat) (o13 o14 o15 o16 o17 : Option PV), kc' ≤ kc + 30 → IQ j l c (n, Cc, Ss, Aa) e g h t M → RWq C0 r r4 r5 r6 n Pp cm sv Tp Cc Ss Aa q9 q11 R9 R11 C → L_W_isNet_329 (d + 132) Q M C kc' r (n : Int) o3 r4 r5 r6 o7 o8 (q9 + 1) o10 (q11 + 1) ((a : Int) + 1) o13 o14 o15 o16 o17) :
    L_W_isNet_383 (d + 132) Q M C kc r (n : Int) o3 r4 r5 r6 o7 o8 (q9 + 1) o10 (q11 + 1) (a : Int) i13 o14 o15 o16 o17 := by
  have r0 : R32 0 := ⟨by decide, by decide⟩
  obtain ⟨⟨-, ⟨-, ⟨f5, b1, b2⟩, -⟩, -⟩, -, ⟨f, v1, v2⟩⟩ := id hW
  obtain ⟨v3, v4⟩ := v2 a ha
  have hS := hI.1 a ha
  have hx : Bq (nsQ n Cc Ss Aa (gSeq n Cc Ss Aa n) a) 76032 1728 := nt_bq hI hT hn hO hR _ ha
  have BS : Bq (((-sv a : Int)) : Rat) 12 1 := (Bq_int (-sv a)).mono (by omega) (Nat.le_refl 1)
  have BM : Bq (nsQ n Cc Ss Aa (gSeq n Cc Ss Aa n) a + ((-sv a : Int) : Rat)) 96768 1728 := (hx.add BS).mono (by decide) (by decide)
  have hgr : grQ n Cc Ss Aa a (grV (nsQ n Cc Ss Aa (gSeq n Cc Ss Aa n) a) ((Ss a : Int) : Rat)) := ⟨_, ⟨n, g_stop hn.2, fun _ _ => rfl⟩, rfl⟩
  have egr : grV (nsQ n Cc Ss Aa (gSeq n Cc Ss Aa n) a) ((Ss a : Int) : Rat) = if nsQ n Cc Ss Aa (gSeq n Cc Ss Aa n) a + ((-sv a : Int) : Rat) < 0 then 0 else nsQ n Cc Ss Aa (gSeq n Cc Ss Aa n) a + ((-sv a : Int) : Rat) := by
    have e9 : nsQ n Cc Ss Aa (gSeq n Cc Ss Aa n) a + ((-sv a : Int) : Rat) = nsQ n Cc Ss Aa (gSeq n Cc Ss Aa n) a - ((Ss a : Int) : Rat) := by
      rw [hS.1.2, Rat.intCast_neg]
      generalize ((sv a : Int) : Rat) = y
      generalize nsQ n Cc Ss Aa (gSeq n Cc Ss Aa n) a = x
      grind
    rw [e9]
    rfl
  rw [egr] at hgr
  have v4 : FL C (R11 a) (nsQ n Cc Ss Aa (gSeq n Cc Ss Aa n) a) := v4
  generalize hX : nsQ n Cc Ss Aa (gSeq n Cc Ss Aa n) a = X at v4 hx BM hgr egr
  refine b_W_isNet_383 ?_
  simp only [cellAt, v1, v3, Int.toNat_natCast, b1, b2 a ha]
  refine ⟨⟨by decide, by decide⟩, ⟨by omega, by omega⟩, trivial, ⟨by omega, by omega⟩, ⟨by omega, by omega⟩, by omega, ?_⟩
  refine s_of (d := d + 4) (by unfold A63; omega) (by unfold A63; decide) (by decide) _ ?_
  rintro w1 M1 C1 ⟨rfl, p1, rfl, -, l1, h1⟩
  rw [i_one] at h1
  refine ⟨by omega, ?_⟩
  rw [Int.toNat_natCast]
  refine s_sum (d := d + 3) (v4.kept l1 zzL) h1 (hx.okS BS (by decide) (by decide)) _ ?_
  rintro w2 M2 C2 ⟨rfl, p2, rfl, -, l2, h2⟩
  refine ⟨by omega, ?_⟩
  refine c_growth q (a := (a : Int)) (x := 0) (y := 0) (z := 0) ⟨by omega, by show (a : Int) < (n : Int); omega⟩ r0 r0 r0 _ ?_
  rintro w3 M3 C3 ⟨rfl, q3, h3⟩
  rw [Int.toNat_natCast] at h3
  rcases h3 with ⟨z, -⟩ | ⟨-, y, hy, hc3, hv3⟩
  · exact absurd hR z
  have ey := hy.uniq hgr ha
  have hc3 : CF M3 y := hc3
  rw [ey] at hc3 hv3
  have om := BM.ok (by decide) (by decide)
  have om1 := om.1
  unfold A63 at om1
  obtain ⟨gm, y1, y2, y3⟩ := id h2
  simp only [cellAt, Int.toNat_natCast, y1, y2]
  refine ⟨trivial, ⟨by decide, by decide⟩, ⟨by omega, by omega⟩, fun z => ⟨by omega, ?_⟩, fun z => ⟨by omega, ?_⟩⟩
  · have hnn : ¬ X + ((-sv a : Int) : Rat) < 0 := Rat.not_lt.mpr (Rat.num_nonneg.mp z)
    rw [if_neg hnn] at hc3 hv3
    rw [hv3]
    refine s_isCame (d := d + 2) hc3 om h2 _ ?_
    rintro w4 M4 C4 ⟨rfl, rfl, l4⟩
    exact ⟨⟨by decide, by decide⟩, fun _ => nt_418 hn hI hT hO hR ha h13 (by omega) q3 (hW.off ((l1.tr l2).tr l4)) fun M C kc' o13 o14 o15 o16 o17 z1 z2 z3 => hN M C kc' _ _ _ _ _ (by omega) z2 z3, fun z => absurd z (by decide)⟩
  · have hnn : X + ((-sv a : Int) : Rat) < 0 := Rat.not_le.mp fun w => z (Rat.num_nonneg.mpr w)
    rw [if_pos hnn] at hc3 hv3
    refine s_of (d := d + 4) (by unfold A63; decide) (by unfold A63; decide) (by decide) _ ?_
    rintro w4 M4 C4 ⟨rfl, p4, rfl, -, l4, h4⟩
    have e0 : ((0 : Int) : Rat) / ((1 : Int) : Rat) = 0 := by decide +kernel
    rw [e0] at h4
    rw [hv3]
    refine ⟨by omega, ?_⟩
    rw [Int.toNat_natCast]
    refine s_isCame (d := d + 2) hc3 ⟨by unfold A63; decide, by decide⟩ h4 _ ?_
    rintro w5 M5 C5 ⟨rfl, rfl, l5⟩
    exact ⟨⟨by decide, by decide⟩, fun _ => nt_418 hn hI hT hO hR ha h13 (by omega) q3 (hW.off (((l1.tr l2).tr l4).tr l5)) fun M C kc' o13 o14 o15 o16 o17 z1 z2 z3 => hN M C kc' _ _ _ _ _ (by omega) z2 z3, fun z => absurd z (by decide)⟩
theorem nt_329 (hn : 1 ≤ n ∧ n ≤ 3) (hI : NIv n n cm sv Tp Cc Ss Aa) (hT : TIv n n Tp) (hO : nOk n Cc Ss Aa) (hR : ratesOk n Aa) (HC : ClosedOK (d + 132)) (hQ : ∀ M C, IQ j l c (n, Cc, Ss, Aa) e g h t M → CBq C0 r C → Q 1 M C) :
    ∀ (u a : Nat) (M : Mem) (C : LMem) (kc : Nat) (o13 o14 o15 o16 o17 : Option PV), a + u = n → kc + 40 * u ≤ 6400 → IQ j l c (n, Cc, Ss, Aa) e g h t M → RWq C0 r r4 r5 r6 n Pp cm sv Tp Cc Ss Aa q9 q11 R9 R11 C → L_W_isNet_329 (d + 132) Q M C kc r (n : Int) o3 r4 r5 r6 o7 o8 (q9 + 1) o10 (q11 + 1) (a : Int) o13 o14 o15 o16 o17 := by
  have r0 : R32 0 := ⟨by decide, by decide⟩
  intro u
  induction u with
  | zero =>
    intro a M C kc o13 o14 o15 o16 o17 ha hkc q hW
    obtain rfl : a = n := by omega
    refine b_W_isNet_329 ⟨⟨by omega, by omega⟩, ⟨by omega, by omega⟩, fun _ => ⟨by omega, ?_⟩, fun z => absurd (Int.le_refl _) z⟩
    refine c_numbersNo q (a := 0) (b := 10) (y := 0) (z := 0) ⟨by decide, by show (0 : Int) < (a : Int); omega⟩ (by omega) ⟨by decide, by decide⟩ r0 r0 _ ?_
    rintro v1 M1 C1 ⟨rfl, rfl, rfl⟩
    refine ⟨⟨by decide, by decide⟩, fun z => absurd rfl z, fun _ => ⟨by omega, ?_⟩⟩
    refine c_rateNo q (a := (a : Int)) (x := 0) (y := 0) (z := 0) (fun z => absurd (show (a : Int) < (a : Int) from z.2) (Int.lt_irrefl _)) ⟨by omega, by omega⟩ r0 r0 r0 _ ?_
    rintro v2 M2 C2 ⟨rfl, rfl, rfl⟩
    refine ⟨⟨by decide, by decide⟩, fun z => absurd rfl z, fun _ => ⟨by omega, ?_⟩⟩
    refine HC hn q hW.1 hI hT _ ?_
    rintro v3 M3 C3 ⟨rfl, q3, hB3⟩
    exact ⟨⟨by decide, by decide⟩, fun z => absurd z (by decide), fun _ => hQ _ _ q3 hB3⟩
  | succ u ih =>
    intro a M C kc o13 o14 o15 o16 o17 ha hkc q hW
    have ha9 : a < n := by omega
    have hS := hI.1 a ha9
    have hx : Bq (rtQ n Cc Ss Aa a) 76032 1728 := nt_bq hI hT hn hO hR _ ha9
    have ok := hx.ok (by decide) (by decide)
    obtain ⟨u1, u2⟩ := id hx
    have hden := (rtQ n Cc Ss Aa a).den_pos
    have p0 : 0 ≤ sv a * ((rtQ n Cc Ss Aa a).den : Int) := Int.mul_nonneg (by omega) (by omega)
    have p1 : sv a * ((rtQ n Cc Ss Aa a).den : Int) ≤ 12 * 1728 := Int.mul_le_mul (by omega) (by omega) (by omega) (by decide)
    have hlt := lt_num (x := rtQ n Cc Ss Aa a) (s := Ss a)
    refine b_W_isNet_329 ⟨⟨by omega, by omega⟩, ⟨by omega, by omega⟩, fun z => absurd z (by omega), fun _ => ⟨by omega, ?_⟩⟩
    refine c_rate q (a := (a : Int)) (x := 0) (y := 0) (z := 0) ⟨by omega, by show (a : Int) < (n : Int); omega⟩ r0 r0 r0 _ ?_
    rintro v1 M1 C1 ⟨rfl, q1, h1⟩
    rw [Int.toNat_natCast] at h1
    rcases h1 with ⟨z, -⟩ | ⟨-, hc1, hv1⟩
    · exact absurd hR z
    have hc1 : CF M1 (rtQ n Cc Ss Aa a) := hc1
    have hv1 : v1 = (rtQ n Cc Ss Aa a).num.sign := hv1
    rw [hv1]
    obtain ⟨f, k1, k2⟩ := id hW.2.1
    obtain ⟨k3, k4⟩ := k2 a ha9
    have k4 : FL C1 (R9 a) (rtQ n Cc Ss Aa a) := k4
    simp only [cellAt, k1, k3, Int.toNat_natCast]
    refine ⟨⟨by decide, by decide⟩, ⟨by omega, by omega⟩, by omega, ?_⟩
    refine s_isCame (d := d + 2) hc1 ok k4 _ ?_
    rintro v2 M2 C2 ⟨rfl, rfl, l2⟩
    have hW2 := hW.off l2
    obtain ⟨⟨-, ⟨-, ⟨f5, b1, b2⟩, -⟩, -⟩, ⟨f', k1', k2'⟩, -⟩ := id hW2
    obtain ⟨k3', gx, x1, x2, x3⟩ := k2' a ha9
    have x2 : gx 0 = (rtQ n Cc Ss Aa a).num := x2
    have x3 : gx 1 = ((rtQ n Cc Ss Aa a).den : Int) := x3
    have l368 : ∀ i13 : Int, ((i13 = 1 ∧ rtQ n Cc Ss Aa a < ((Ss a : Int) : Rat)) ∨ (i13 = 0 ∧ ¬ rtQ n Cc Ss Aa a < ((Ss a : Int) : Rat))) → L_W_isNet_368 (d + 132) Q M2 C2 (kc + 3 + 3) r (n : Int) o3 r4 r5 r6 o7 o8 (q9 + 1) o10 (q11 + 1) (a : Int) i13 o14 o15 o16 o17 := fun i13 h13 => by
      refine b_W_isNet_368 ⟨by omega, ?_⟩
      refine c_stable q1 (a := (a : Int)) (x := 0) (y := 0) (z := 0) ⟨by omega, by show (a : Int) < (n : Int); omega⟩ r0 r0 r0 _ ?_
      rintro v3 M3 C3 ⟨rfl, q3, h3⟩
      rw [Int.toNat_natCast] at h3
      have go : L_W_isNet_383 (d + 132) Q M3 C3 (kc + 3 + 3 + 3) r (n : Int) o3 r4 r5 r6 o7 o8 (q9 + 1) o10 (q11 + 1) (a : Int) i13 o14 o15 o16 o17 := nt_383 hn hI hT hO hR ha9 h13 (by omega) q3 hW2 fun M C kc' o13 o14 o15 o16 o17 z1 z2 z3 => by
        rw [show (a : Int) + 1 = ((a + 1 : Nat) : Int) by omega]
        exact ih (a + 1) M C kc' _ _ _ _ _ (by omega) (by omega) z2 z3
      rcases h3 with ⟨z, -⟩ | ⟨-, ⟨rfl, hs⟩ | ⟨rfl, hs⟩⟩
      · exact absurd hR z
      · rcases h13 with ⟨rfl, w⟩ | ⟨rfl, w⟩
        · exact ⟨⟨by decide, by decide⟩, fun z => absurd z (by decide), fun _ => ⟨⟨by decide, by decide⟩, fun _ => go, fun z => absurd rfl z⟩⟩
        · exact absurd hs w
      · rcases h13 with ⟨rfl, w⟩ | ⟨rfl, w⟩
        · exact absurd w hs
        · exact ⟨⟨by decide, by decide⟩, fun _ => ⟨⟨by decide, by decide⟩, fun _ => go, fun z => absurd rfl z⟩, fun z => absurd rfl z⟩
    rw [hS.1.2] at hlt l368
    refine ⟨⟨by decide, by decide⟩, fun _ => ?_, fun z => absurd (by decide) z⟩
    simp only [cellAt, k1', k3', Int.toNat_natCast, x1, x2, x3, b1, b2 a ha9]
    refine ⟨⟨by decide, by decide⟩, ⟨by omega, by omega⟩, trivial, ⟨by decide, by decide⟩, trivial, ⟨by omega, by omega⟩, ⟨by omega, by omega⟩, ⟨by decide, by decide⟩, ⟨by omega, by omega⟩, trivial, ⟨by decide, by decide⟩, ⟨by omega, by omega⟩, ⟨by omega, by omega⟩, fun z => l368 0 (Or.inr ⟨rfl, fun w => by have := hlt.mp w; omega⟩), fun z => l368 1 (Or.inl ⟨rfl, hlt.mpr (by omega)⟩)⟩
theorem nt_253 (hn : 1 ≤ n ∧ n ≤ 3) (hI : NIv n n cm sv Tp Cc Ss Aa) (hT : TIv n n Tp) (hO : nOk n Cc Ss Aa) (HC : ClosedOK (d + 132)) (hQ : ∀ M C, IQ j l c (n, Cc, Ss, Aa) e g h t M → CBq C0 r C → Q 1 M C) {i8 : Int} (h8 : (i8 = 1 ∧ ratesOk n Aa) ∨ (i8 = 0 ∧ ¬ ratesOk n Aa)) {M : Mem} {C : LMem} {kc : Nat} {o9 o10 o11 o12 : Option PV} (hkc : kc ≤ 200) (q : IQ j l c (n, Cc, Ss, Aa) e g h t M) (hW : NWq C0 r r4 r5 r6 n Pp cm sv Tp C) : L_W_isNet_253 (d + 132) Q M C kc r (n : Int) o3 r4 r5 r6 o7 i8 o9 o10 o11 o12 none none none none none := by
  have hsm := hI.sm hT hn
  have p8 := pow_8 hn.2
  obtain ⟨e1, e2⟩ := p2i n (by omega)
  have hp := Nat.two_pow_pos n
  rcases h8 with ⟨rfl, hR⟩ | ⟨rfl, hR⟩
  · refine b_W_isNet_253 ⟨⟨by decide, by decide⟩, fun _ => ⟨⟨by omega, by omega⟩, by omega, ?_⟩, fun z => absurd (by decide) z⟩
    have hD := fun f j (hj : j ≤ n) => by
      have := (net_pos hO hR f).1 j hj
      rw [nt_D hI hj] at this
      exact this
    rw [Int.toNat_natCast, e1, show ((2 ^ n : Nat) : Int) - 1 = ((2 ^ n - 1 : Nat) : Int) by omega]
    refine s_flows (d := d + 1) hsm (show 2 ^ n - 1 < 8 by omega) (hD _) hW.2.1 _ ?_
    rintro v1 M1 C1 ⟨rfl, q9, R9, rfl, l1, hq9, hV9⟩
    have hW1 := hW.off l1
    refine ⟨by omega, ?_⟩
    refine s_flows (d := d + 1) (t := 0) hsm (by decide) (hD _) hW1.2.1 _ ?_
    rintro v2 M2 C2 ⟨rfl, q11, R11, rfl, l2, hq11, hV11⟩
    rw [Int.toNat_natCast, Int.toNat_natCast]
    refine nt_285 (w9 := fun i => rtQ n Cc Ss Aa i) hn hI hT hO hR (fun C3 kc3 q11 R11 o10 o13 z1 z2 z3 z4 => ?_) n 0 C2 _ 0 q11 R11 _ (by omega) (by omega) (hW1.off l2) ((hV9.off l2).cgw fun i hi => ?_) (hV11.cgw fun i hi => ?_) ⟨hp, fun x hx => ?_⟩
    · exact nt_329 hn hI hT hO hR HC hQ n 0 M2 C3 kc3 _ _ _ _ _ (by omega) (by omega) q ⟨z2, z3, z4⟩
    · show _ = nsQ n Cc Ss Aa (fun _ => false) i
      rw [← nt_ns hI hi]
      refine nsQ_congr (fun k hk => ?_) hi
      show (!((2 ^ n - 1).testBit k)) = false
      rw [Nat.testBit_two_pow_sub_one, decide_eq_true hk]
      rfl
    · rw [← nt_ns hI hi]
      refine nsQ_congr (fun k hk => ?_) hi
      show (!((0 : Nat).testBit k)) = true
      rw [Nat.zero_testBit]
      rfl
    · rw [Nat.zero_testBit, if_neg (Nat.not_lt_zero x)]
      rfl
  · refine b_W_isNet_253 ⟨⟨by decide, by decide⟩, fun z => absurd rfl z, fun _ => ⟨by omega, ?_⟩⟩
    refine HC hn q hW hI hT _ ?_
    rintro v1 M1 C1 ⟨rfl, q1, hB1⟩
    exact ⟨Or.inr rfl, hQ _ _ q1 hB1⟩
end NET4
theorem net_ok0 {d : Nat} (HC : ClosedOK (d + 132)) {M : Mem} {C : LMem} {j : StJ} {l : StL} {c : StC} {n9 : StN} {e : StE} {g : StG} {h : StH} {t : StT} {r : Nat} {f : Nat → Int} (q : IQ j l c n9 e g h t M) (hr : C r = (1, 1, f)) : LPo (d + 133) cW_isNet [oH, .inr (.inr (.inl (r + 1)))] M C (fun v m c' => v = 1 ∧ LF [r] C c' ∧ ∃ n', IQ j l c n' e g h t m) := fun Q hQ => by
  have r0 : R32 0 := ⟨by decide, by decide⟩
  have hB0 : CBq C r C := ⟨⟨f, hr⟩, LF.rf, by rw [hr]; exact Nat.succ_ne_zero 0⟩
  refine e_W_isNet (b_W_isNet_0 ⟨by omega, ?_⟩)
  refine s_fromF hr (by omega) (by omega) _ ?_
  rintro v1 M1 C1 ⟨rfl, hv1, ⟨f1, hr1⟩, hf1⟩
  have hB1 := hB0.rnd hf1 ⟨f1, hr1⟩
  obtain ⟨n, rfl⟩ : ∃ k : Nat, v1 = (k : Int) := ⟨v1.toNat, by omega⟩
  have hn : 1 ≤ n ∧ n ≤ 3 := by omega
  refine ⟨by omega, ?_⟩
  refine c_net2 q (m9 := (n : Int)) (x := 0) (y := 0) (z := 0) ⟨by omega, by omega⟩ r0 r0 r0 _ ?_
  rintro v2 M2 C2 ⟨rfl, hv2, q2⟩
  rw [Int.toNat_natCast] at q2
  refine ⟨⟨by omega, by omega⟩, fun _ => ⟨by omega, ?_⟩, fun z => absurd hv2.1 z⟩
  refine s_nextF hr1 _ ?_
  rintro v3 M3 C3 ⟨rfl, hv3, ⟨f3, hr3⟩, hf3⟩
  have hB3 := hB1.rnd hf3 ⟨f3, hr3⟩
  rw [Int.toNat_natCast]
  have a1 := Int.emod_nonneg v3 (show (3 : Int) ≠ 0 by decide)
  have a2 := Int.emod_lt_of_pos v3 (show 0 < (3 : Int) by decide)
  -- the rows, and what is behind them
  have go : ∀ (i3 : Int) (q4 q5 q6 : Nat), (i3 = 0 ∨ i3 = 1) → (C3 q4).1 = 0 → ((cst C3 q4 (1, n, fun _ => 0)) q5).1 = 0 → (∀ k, k ≤ n → ((cst (cst C3 q4 (1, n, fun _ => 0)) q5 (1, n, fun _ => 0)) (q6 + k)).1 = 0) → L_W_isNet_37 (d + 132) Q M3 (cmn (cst (cst C3 q4 (1, n, fun _ => 0)) q5 (1, n, fun _ => 0)) q6 n 4 1 n) (0 + 0 + 3 + 0 + lcost n + lcost n + (n + 1)) r (n : Int) i3 q4 q5 q6 0 none none none none none none none none none none := by
    intro i3 q4 q5 q6 hi3 h4 h5 h6
    have n45 : q4 ≠ q5 := fun z => by
      rw [← z, cst_self] at h5
      exact absurd (show (1 : Nat) = 0 from h5) (by decide)
    have k4 : cst (cst C3 q4 (1, n, fun _ => 0)) q5 (1, n, fun _ => 0) q4 = (1, n, fun _ => 0) := by rw [cst_ne n45, cst_self]
    have k5 : cst (cst C3 q4 (1, n, fun _ => 0)) q5 (1, n, fun _ => 0) q5 = (1, n, fun _ => 0) := cst_self
    have hlA : LF [r] C (cst (cst C3 q4 (1, n, fun _ => 0)) q5 (1, n, fun _ => 0)) := (hB3.2.1.new h4).new h5
    have hf4 : (C q4).1 = 0 := hB3.2.1.free h4
    have hf5 : (C q5).1 = 0 := (hB3.2.1.new h4).free h5
    have hB5 : CBq C r (cst (cst C3 q4 (1, n, fun _ => 0)) q5 (1, n, fun _ => 0)) := (hB3.set hf4).set hf5
    generalize hCA : cst (cst C3 q4 (1, n, fun _ => 0)) q5 (1, n, fun _ => 0) = CA at *
    have nq : ∀ k, k ≤ n → q4 ≠ q6 + k ∧ q5 ≠ q6 + k := fun k hk => ⟨fun z => by
      have := h6 k hk
      rw [← z, k4] at this
      exact absurd (show (1 : Nat) = 0 from this) (by decide), fun z => by
      have := h6 k hk
      rw [← z, k5] at this
      exact absurd (show (1 : Nat) = 0 from this) (by decide)⟩
    have hfree : ∀ k, k ≤ n → (C (q6 + k)).1 = 0 := fun k hk => hlA.free (h6 k hk)
    have hW : NWq C r q4 q5 q6 n (fun i => q6 + 1 + i) (fun _ => 0) (fun _ => 0) (fun _ _ => 0) (cmn CA q6 n 4 1 n) := by
      refine ⟨⟨?_, hB5.2.1.mkn h6, hB5.2.2⟩, ⟨⟨fun _ => 0, ?_, fun _ _ => rfl⟩, ⟨fun _ => 0, ?_, fun _ _ => rfl⟩, MxQ.mk h6⟩, hf4, hf5, ⟨?_, fun i hi => ?_⟩, n45, fun i hi => ?_⟩
      · obtain ⟨x, hx⟩ := hB5.1
        exact ⟨x, by rw [cmn_off h6 (by rw [hx]; exact Nat.succ_ne_zero 0)]; exact hx⟩
      · rw [cmn_off h6 (by rw [k4]; exact Nat.succ_ne_zero 0)]; exact k4
      · rw [cmn_off h6 (by rw [k5]; exact Nat.succ_ne_zero 0)]; exact k5
      · have := hfree 0 (Nat.zero_le n)
        rw [Nat.add_zero] at this
        exact this
      · have := hfree (i + 1) (by omega)
        rw [show q6 + (i + 1) = q6 + 1 + i by omega] at this
        exact this
      · have := nq (i + 1) (by omega)
        rw [show q6 + (i + 1) = q6 + 1 + i by omega] at this
        exact this
    refine nt_37 (d := d + 1) (c := c) hn hi3 (fun M C kc' cm sv Tp Cc Ss Aa o8 o9 o10 z1 z2 z3 z4 z5 => ?_) n 0 M3 _ _ (fun _ => 0) (fun _ => 0) (fun _ _ => 0) (fun _ => 0) (fun _ => 1) (fun _ _ => 0) none none none (by omega) (by unfold lcost; omega) q2 hW ⟨fun i hi => absurd hi (Nat.not_lt_zero i), fun _ _ _ => rfl, fun _ _ _ _ => rfl⟩ ⟨fun _ _ _ _ => ⟨Int.le_refl 0, (by decide : (0 : Int) ≤ 4)⟩, fun i hi => ?_, fun _ _ _ _ _ => rfl⟩
    · have hO : nOk n Cc Ss Aa := z2.nt.1
      refine b_W_isNet_37 ⟨⟨by omega, by omega⟩, ⟨by omega, by omega⟩, fun _ => ?_, fun z => absurd (Int.le_refl _) z⟩
      refine nt_139 (d := d + 1) hn z3.2.1.2.2 z5.1 z4.2.2 (fun o7 o10 o11 i8 h8 => ?_) (n + 1) 0 0 _ _ _ (by omega) ⟨Nat.two_pow_pos n, fun x hx => ?_, fun x hx => ⟨fun w => False.elim w, fun w => absurd w (Nat.not_lt_zero x)⟩⟩
      · refine nt_208 (d := d + 1) (nt := (n, Cc, Ss, Aa)) hn rfl h8 (fun M kc' o7 o9 o10 o11 y1 y2 => ?_) n 0 M _ _ _ _ (by omega) (by omega) z2
        exact nt_253 hn z4 z5 hO HC (fun M C w1 w2 => hQ _ _ _ ⟨rfl, w2.2.1, _, w1⟩) h8 y1 y2 z3
      · rw [Nat.zero_testBit] at hx
        cases hx
    · rw [row_0 n (fun _ _ => rfl)]
      decide
  refine ⟨by omega, ⟨by omega, by omega⟩, fun _ => ⟨⟨by omega, by omega⟩, by unfold lcost; omega, fun q4 h4 => ⟨by unfold lcost; omega, fun q5 h5 => ⟨⟨by omega, by omega⟩, by unfold lcost; omega, fun q6 h6 => go 0 q4 q5 q6 (Or.inl rfl) h4 h5 h6⟩⟩⟩, fun _ => ⟨⟨by omega, by omega⟩, by unfold lcost; omega, fun q4 h4 => ⟨by unfold lcost; omega, fun q5 h5 => ⟨⟨by omega, by omega⟩, by unfold lcost; omega, fun q6 h6 => go 1 q4 q5 q6 (Or.inr rfl) h4 h5 h6⟩⟩⟩⟩
