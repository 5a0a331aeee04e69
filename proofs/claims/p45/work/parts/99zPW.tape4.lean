/-! isTape: the loop over the jobs that are told. -/
section TPE
variable {d : Nat} {Q : LQ} {M : Mem} {C0 : LMem} {j : StJ} {l : StL} {c : StC} {n : StN} {e : StE} {g : StG} {h : StH} {t : StT} {r a b q1 q3 : Nat} {fb fs : Nat → Int}
set_option maxHeartbeats 4000000 in
theorem tp_loop (hQ : ∀ (M : Mem) (C : LMem) (j : StJ) (h : StH) (t : StT), IQ j l c n e g h t M → LF [r, a, b] C0 C → JCs r a b j l C → Q 1 M C) (q : IQ j l c n e g h t M) (hn : j.1 ≤ 20) (hfb : fb 0 = (j.1 : Int) ∧ fb 2 = l.2.1) {cnt : Nat} (hcnt : cnt ≤ 3)
    (hEnd : ∀ (C : LMem) (kc i : Nat) (f fa : Nat → Int) (tm : Int) (o10 : Option PV), kc ≤ 250 → TSq C0 r a b q1 q3 fa fb fs f C → TE j.1 cnt fa f i → TBq j.1 j.2 cnt fa tm → L_W_isTape_88 (d + 130) Q M C kc r a b q1 (i : Int) (cnt : Int) tm q3 (cnt : Int) o10) :
    ∀ (u m : Nat) (C : LMem) (kc i : Nat) (f fa : Nat → Int) (tm : Int) (o10 : Option PV), m + u = cnt → kc + 40 * u ≤ 250 → TSq C0 r a b q1 q3 fa fb fs f C → TE j.1 m fa f i → TBq j.1 j.2 m fa tm → L_W_isTape_88 (d + 130) Q M C kc r a b q1 (i : Int) (cnt : Int) tm q3 (m : Int) o10 := by
  intro u
  induction u with
  | zero =>
    intro m C kc i f fa tm o10 hm hkc hs hE hB
    obtain rfl : m = cnt := by omega
    exact hEnd C kc i f fa tm o10 (by omega) hs hE hB
  | succ u ih =>
    intro m C kc i f fa tm o10 hm hkc hs hE hB
    obtain ⟨⟨x, hr⟩, ha, hb, -, -, hf9, -⟩ := id hs
    obtain ⟨-, -, -, -, t0, t5⟩ := id hB
    refine b_W_isTape_88 ⟨⟨by omega, by omega⟩, ⟨by omega, by omega⟩, fun z => absurd z (by omega), fun _ => ?_⟩
    simp only [hb, hfb.1]
    refine ⟨trivial, ⟨by omega, by omega⟩, by omega, ?_⟩
    refine s_nextF hr _ ?_
    rintro v1 M1 C1 ⟨rfl, hv1, hr1, hf1⟩
    have hs1 := hs.rnd hf1 hr1
    have ha1 := hs1.2.1
    obtain ⟨tn, htn⟩ : ∃ k : Nat, tm + v1 % 5 = (k : Int) := ⟨(tm + v1 % 5).toNat, by omega⟩
    rw [htn]
    have hle : tm ≤ (tn : Int) := by omega
    have htop : (tn : Int) ≤ 504 := by omega
    have i0 : (4 * ((j.1 : Int) + (m : Int))).toNat = 4 * j.1 + 4 * m := by omega
    have i1 : (4 * ((j.1 : Int) + (m : Int)) + 1).toNat = 4 * j.1 + 4 * m + 1 := by omega
    have i2 : (4 * ((j.1 : Int) + (m : Int)) + 2).toNat = 4 * j.1 + 4 * m + 2 := by omega
    have i3 : (4 * ((j.1 : Int) + (m : Int)) + 3).toNat = 4 * j.1 + 4 * m + 3 := by omega
    refine ⟨⟨by omega, by omega⟩, ⟨by omega, by omega⟩, fun h500 => ?_, fun _ => hQ M1 C1 j h t q hs1.2.2.2.2.2.1 ⟨hr1, ⟨fa, ha1, hB.1⟩, fb, hs1.2.2.1, hfb.1, hfb.2⟩⟩
    simp only [ha1, cup_of ha1, i0]
    refine ⟨trivial, ⟨by omega, by omega⟩, by omega, ?_⟩
    have hs2 := hs1.seta (i := 4 * j.1 + 4 * m) (v := (tn : Int))
    obtain ⟨x2, hr2⟩ := hs2.1
    refine s_fromF hr2 (by omega) (by omega) _ ?_
    rintro v2 M2 C2 ⟨rfl, hv2, hr3, hf2⟩
    have hs3 := hs2.rnd hf2 hr3
    have ha3 := hs3.2.1
    simp only [ha3, cup_of ha3, i1]
    refine ⟨trivial, ⟨by omega, by omega⟩, by omega, ?_⟩
    have hs4 := hs3.seta (i := 4 * j.1 + 4 * m + 1) (v := v2)
    obtain ⟨x4, hr4⟩ := hs4.1
    refine s_nextF hr4 _ ?_
    rintro v3 M3 C3 ⟨rfl, hv3, hr5, hf3⟩
    have hs5 := hs4.rnd hf3 hr5
    have ha5 := hs5.2.1
    simp only [ha5, cup_of ha5, i2]
    refine ⟨by omega, trivial, ⟨by omega, by omega⟩, by omega, ?_⟩
    have hs6 := hs5.seta (i := 4 * j.1 + 4 * m + 2) (v := v3 % 3)
    obtain ⟨x6, hr6⟩ := hs6.1
    refine s_fromF hr6 (by omega) (by omega) _ ?_
    rintro v4 M4 C4 ⟨rfl, hv4, hr7, hf4⟩
    have hs7 := hs6.rnd hf4 hr7
    have ha7 := hs7.2.1
    simp only [ha7, cup_of ha7, i3]
    refine ⟨trivial, ⟨by omega, by omega⟩, by omega, ?_⟩
    have hs8 := hs7.seta (i := 4 * j.1 + 4 * m + 3) (v := v4)
    have hB' := hB.step (x0 := (tn : Int)) (x1 := v2) (x2 := v3 % 3) (x3 := v4) ⟨hle, h500⟩ (by omega) (by omega) hv4
    have w0 : sr (sr (sr (sr fa (4 * j.1 + 4 * m) (tn : Int)) (4 * j.1 + 4 * m + 1) v2) (4 * j.1 + 4 * m + 2) (v3 % 3)) (4 * j.1 + 4 * m + 3) v4 (4 * j.1 + 4 * m) = (tn : Int) := by
      rw [sr_ne (by omega), sr_ne (by omega), sr_ne (by omega), sr_same]
    have w1 : sr (sr (sr (sr fa (4 * j.1 + 4 * m) (tn : Int)) (4 * j.1 + 4 * m + 1) v2) (4 * j.1 + 4 * m + 2) (v3 % 3)) (4 * j.1 + 4 * m + 3) v4 (4 * j.1 + (4 * m + 1)) = v2 := by
      rw [← Nat.add_assoc, sr_ne (by omega), sr_ne (by omega), sr_same]
    have w2 : sr (sr (sr (sr fa (4 * j.1 + 4 * m) (tn : Int)) (4 * j.1 + 4 * m + 1) v2) (4 * j.1 + 4 * m + 2) (v3 % 3)) (4 * j.1 + 4 * m + 3) v4 (4 * j.1 + (4 * m + 2)) = v3 % 3 := by
      rw [← Nat.add_assoc, sr_ne (by omega), sr_same]
    have w3 : sr (sr (sr (sr fa (4 * j.1 + 4 * m) (tn : Int)) (4 * j.1 + 4 * m + 1) v2) (4 * j.1 + 4 * m + 2) (v3 % 3)) (4 * j.1 + 4 * m + 3) v4 (4 * j.1 + (4 * m + 3)) = v4 := by
      rw [← Nat.add_assoc, sr_same]
    have hE' : TE j.1 m (sr (sr (sr (sr fa (4 * j.1 + 4 * m) (tn : Int)) (4 * j.1 + 4 * m + 1) v2) (4 * j.1 + 4 * m + 2) (v3 % 3)) (4 * j.1 + 4 * m + 3) v4) f i := hE.off fun x hx => by
      rw [sr_ne (by omega), sr_ne (by omega), sr_ne (by omega), sr_ne (by omega)]
    generalize sr (sr (sr (sr fa (4 * j.1 + 4 * m) (tn : Int)) (4 * j.1 + 4 * m + 1) v2) (4 * j.1 + 4 * m + 2) (v3 % 3)) (4 * j.1 + 4 * m + 3) v4 = fz at *
    obtain ⟨⟨F, hX, hF⟩, hc9, hi, -⟩ := hE'
    refine t_word (d := d + 128) (k := 1) (t3 := 0) ⟨by decide, by decide⟩ rfl hs8 (by omega) _ ?_
    rintro v5 M5 C5 ⟨rfl, y5, g5, hy5, rfl, hs9, hx5, hc5, hw5⟩
    obtain ⟨cls5, hcl5, hX5⟩ := hx5 _ _ _ _ hX
    have hX6 := hX5.at_ hw5 (okl hcl5 (Or.inl rfl) (by decide))
    have hc5 := hc5 hc9
    have l5 : (wordL 1).length = 2 := rfl
    rw [l5] at hc5 ⊢
    have fin : ∀ (C6 : LMem) (K : Nat) (y : Nat) (g6 : Nat → Int) (len : Nat), K ≤ kc + 8 → y ≤ 1 → len ≤ 3 → TSq C0 r a b q1 q3 fz fb fs g6 C6 → (∀ st c cls F, TX g5 (i + y5 + 2) st c cls F → ∃ cls', (cls' = 0 ∨ cls' = cls) ∧ TX g6 (i + y5 + 2 + y) st c cls' F) → (Ch9 g5 (i + y5 + 2) → Ch9 g6 (i + y5 + 2 + y + len)) → numAt g6 (i + y5 + 2 + y) len (tn : Int) → L_W_isTape_161 (d + 130) Q M5 C6 K r a b q1 ((i + y5 + 2 + y + len : Nat) : Int) (cnt : Int) (tn : Int) q3 (m : Int) (4 * ((j.1 : Int) + (m : Int))) := by
      intro C6 K y g6 len hK hy hlen hs6 hx6 hc6 hn6
      obtain ⟨cls6, hcl6, hX7⟩ := hx6 _ _ _ _ hX6
      have hX8 := hX7.num (Or.inl ⟨rfl, rfl⟩) hn6 (by omega)
      refine tp_161 (by omega) hn hs6 hX8 (fun T x hx => ?_) (fun T => ?_) (fun T => ?_) (hc6 hc5) (by omega) (by rw [w1]; omega) (by rw [w2]; omega) (by rw [w3]; omega) (by omega) (fun C kc' i' f' z1 z2 z3 => ?_)
      · show sr (sr (sr (F T) (4 * m + 2) 0) (4 * m + 3) 1) (4 * m + 0) (tn : Int) x = fz (4 * j.1 + x)
        by_cases z : x = 4 * m
        · rw [z, show 4 * m + 0 = 4 * m from rfl, sr_same, w0]
        · rw [sr_ne (by omega), sr_ne (by omega), sr_ne (by omega)]
          exact hF T x (by omega)
      · show sr (sr (sr (F T) (4 * m + 2) 0) (4 * m + 3) 1) (4 * m + 0) (tn : Int) (4 * m + 2) = 0
        rw [sr_ne (by omega), sr_ne (by omega), sr_same]
      · show sr (sr (sr (F T) (4 * m + 2) 0) (4 * m + 3) 1) (4 * m + 0) (tn : Int) (4 * m + 3) = 1
        rw [sr_ne (by omega), sr_same]
      · exact ih (m + 1) C kc' i' f' fz (tn : Int) _ (by omega) (by omega) z2 z3 hB'
    simp only [Int.toNat_natCast]
    refine ⟨fun _ => ⟨fun _ => ⟨⟨by omega, by omega⟩, by omega, ?_⟩, fun _ => ⟨⟨by omega, by omega⟩, by omega, ?_⟩⟩, fun _ => ⟨⟨by omega, by omega⟩, by omega, ?_⟩⟩
    · refine t_num (d := d + 128) (w := tn) (by omega) hs9 (by omega) _ ?_
      rintro v6 M6 C6 ⟨rfl, y6, g6, len, hy6, hl6, rfl, hs10, hx6, hc6, hw6⟩
      exact fin C6 _ y6 g6 len (by omega) hy6 hl6 hs10 hx6 hc6 hw6
    · refine t_num0 (d := d + 128) (w := tn) (by omega) hs9 (by omega) _ ?_
      rintro v6 M6 C6 ⟨rfl, y6, g6, len, hy6, hl6, rfl, hs10, hx6, hc6, hw6⟩
      exact fin C6 _ y6 g6 len (by omega) hy6 hl6 hs10 hx6 hc6 hw6
    · refine t_num (d := d + 128) (w := tn) (by omega) hs9 (by omega) _ ?_
      rintro v6 M6 C6 ⟨rfl, y6, g6, len, hy6, hl6, rfl, hs10, hx6, hc6, hw6⟩
      exact fin C6 _ y6 g6 len (by omega) hy6 hl6 hs10 hx6 hc6 hw6
end TPE
