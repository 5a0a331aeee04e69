/-! isLost: shares of calls that are lost. -/
theorem s_nextF {d r : Nat} {M : Mem} {C : LMem} {f : Nat → Int} (hr : C r = (1, 1, f)) : LPo (d + 1) cW_next [.inr (.inr (.inl (r + 1)))] M C (fun v m c => m = M ∧ (0 ≤ v ∧ v < 8388608) ∧ (∃ g, c r = (1, 1, g)) ∧ LF [r] C c) := (s_next hr).imp fun v m c hv => by
  obtain ⟨h1, h2, g, rfl⟩ := hv
  exact ⟨h1, h2, ⟨g, cst_self⟩, LF.rf.own List.mem_cons_self hr⟩
theorem s_fromF {d r : Nat} {M : Mem} {C : LMem} {f : Nat → Int} {lo hi : Int} (hr : C r = (1, 1, f)) (h1 : lo ≤ hi) (h2 : hi - lo < 2147483647) : LPo (d + 2) cW_from [.inr (.inr (.inl (r + 1))), .inl lo, .inl hi] M C (fun v m c => m = M ∧ (lo ≤ v ∧ v ≤ hi) ∧ (∃ g, c r = (1, 1, g)) ∧ LF [r] C c) := (s_from hr h1 h2).imp fun v m c hv => by
  obtain ⟨h1, h2, g, rfl⟩ := hv
  exact ⟨h1, h2, ⟨g, cst_self⟩, LF.rf.own List.mem_cons_self hr⟩
theorem ne_new {C : LMem} {r q k n : Nat} {f : Nat → Int} (hr : C r = (k + 1, n, f)) (hq : (C q).1 = 0) : q ≠ r := fun z => by
  rw [z, hr] at hq
  cases hq
theorem nin1 {r q : Nat} (h : q ≠ r) : q ∉ [r] := fun z => h (List.mem_singleton.mp z)
theorem row1 {C c : LMem} {r : Nat} {f : Nat → Int} (hf : LF [] C c) (hr : C r = (1, 1, f)) : c r = (1, 1, f) := hf.at' (k := 0) List.not_mem_nil hr
theorem mkR_nn (a w : Nat) : (0 : Rat) ≤ mkRat (a : Int) w := Rat.num_nonneg.mp (by
  rw [Rat.num_mkRat]
  split
  · exact Int.le_refl 0
  · exact Int.ediv_nonneg (Int.natCast_nonneg _) (Int.natCast_nonneg _))
theorem eL_mono {p : Nat} (hp : p ≤ 11) : ∀ n, eL p n ≤ eL 11 n
  | 0 => Nat.le_refl 1
  | n + 1 => Nat.mul_le_mul (eL_mono hp n) hp
theorem eA_mono {p u : Nat} (hp : p ≤ 11) (hu : u ≤ 4) : ∀ n, eA p u n ≤ eA 11 4 n
  | 0 => Nat.le_refl 1
  | n + 1 => Nat.add_le_add (Nat.mul_le_mul (eA_mono hp hu n) (Nat.mul_le_mul_left _ hu)) (eL_mono hp (n + 1))
theorem loss_Bq {p u n : Nat} (hp : p ≤ 11) (hu : 1 ≤ u ∧ u ≤ 4) (hn : n ≤ 5) : Bq (lossF (mkRat (p : Int) u) n) 161051 1805231 ∧ 0 ≤ (lossF (mkRat (p : Int) u) n).num := by
  have h1 := (lossF_mk (x := p) (y := u) (by omega) n).1
  have h0 := eA_pos (x := p) (y := u) (by omega) n
  rw [h1]
  refine ⟨(Bq_mk h0).mono ?_ ?_, Rat.num_nonneg.mpr (mkR_nn _ _)⟩
  · rw [Int.natAbs_natCast]
    refine Nat.le_trans (eL_mono hp n) ?_
    rcases (show n = 0 ∨ n = 1 ∨ n = 2 ∨ n = 3 ∨ n = 4 ∨ n = 5 by omega) with rfl | rfl | rfl | rfl | rfl | rfl <;> decide
  · refine Nat.le_trans (eA_mono hp hu.2 n) ?_
    rcases (show n = 0 ∨ n = 1 ∨ n = 2 ∨ n = 3 ∨ n = 4 ∨ n = 5 by omega) with rfl | rfl | rfl | rfl | rfl | rfl <;> decide
theorem le_mk {b : Rat} {a w : Nat} (h0 : 0 ≤ b.num) (hw : 0 < w) : b ≤ mkRat (a : Int) w ↔ b.num * w ≤ (b.den : Int) * a := by
  have hd := b.den_pos
  have e : b = mkRat ((b.num.toNat : Nat) : Int) b.den := by
    rw [Int.toNat_of_nonneg h0]
    exact (Rat.mkRat_self b).symm
  have h := mkRat_le (v := b.num.toNat) (w := b.den) (a := a) (b := w) hd hw
  rw [← e, Int.toNat_of_nonneg h0] at h
  exact h
theorem loss_step {p u n : Nat} (hu : 1 ≤ u) : ((((n + 1 : Nat) : Int) : Rat) / ((1 : Int) : Rat) + mkRat (p : Int) u * lossF (mkRat (p : Int) u) n ≠ 0) ∧ mkRat (p : Int) u * lossF (mkRat (p : Int) u) n / ((((n + 1 : Nat) : Int) : Rat) / ((1 : Int) : Rat) + mkRat (p : Int) u * lossF (mkRat (p : Int) u) n) = lossF (mkRat (p : Int) u) (n + 1) := by
  have e1 : (((n + 1 : Nat) : Int) : Rat) / ((1 : Int) : Rat) = ((n + 1 : Nat) : Rat) := by
    rw [Rat.intCast_natCast]
    have : ((1 : Int) : Rat) = 1 := rfl
    rw [this]
    grind
  rw [e1]
  refine ⟨?_, rfl⟩
  have h1 := (lossF_mk (x := p) (y := u) (by omega) n).1
  have h2 : (0 : Rat) ≤ mkRat (p : Int) u := mkR_nn _ _
  have h3 : (0 : Rat) ≤ lossF (mkRat (p : Int) u) n := by rw [h1]; exact mkR_nn _ _
  have h4 := Rat.mul_nonneg h2 h3
  have h5 : (0 : Rat) < ((n + 1 : Nat) : Rat) := by exact_mod_cast Nat.succ_pos n
  intro z
  grind
/-- the first number of servers that loses little, as the loop knows it -/
def leastP (x : Rat) (y : Rat) (n : Nat) (i : Int) : Prop := (i = -1 ∧ ∀ k, k < n → ¬ lossF x k ≤ y) ∨ ∃ m : Nat, i = (m : Int) ∧ m < n ∧ lossF x m ≤ y ∧ ∀ k, k < m → ¬ lossF x k ≤ y
set_option maxHeartbeats 4000000 in
theorem s_isLost {d r : Nat} {M : Mem} {C : LMem} {j : StJ} {l : StL} {c : StC} {n : StN} {e : StE} {g : StG} {h : StH} {t : StT} {f : Nat → Int} (q : IQ j l c n e g h t M) (hr : C r = (1, 1, f)) : LPo (d + 131) cW_isLost [oH, .inr (.inr (.inl (r + 1)))] M C (fun v m c' => v = 1 ∧ LF [r] C c' ∧ IQ j l c n e g h t m) := fun Q hQ => by
  refine e_W_isLost (b_W_isLost_0 ⟨by omega, ?_⟩)
  refine s_nextF hr _ ?_
  rintro v1 M1 C1 ⟨rfl, hv1, ⟨f1, hr1⟩, hf1⟩
  refine ⟨⟨by omega, by omega⟩, by omega, ?_⟩
  refine s_fromF hr1 (by omega) (by omega) _ ?_
  rintro v2 M2 C2 ⟨rfl, hv2, ⟨f2, hr2⟩, hf2⟩
  refine ⟨by omega, ?_⟩
  refine s_nextF hr2 _ ?_
  rintro v3 M3 C3 ⟨rfl, hv3, ⟨f3, hr3⟩, hf3⟩
  have hf3 := (hf1.tr hf2).tr hf3
  refine ⟨⟨by omega, by omega⟩, ⟨by omega, by omega⟩, ⟨by omega, by omega⟩, by omega, ?_⟩
  refine s_of ⟨by omega, by omega⟩ ⟨by omega, by omega⟩ (by omega) _ ?_
  rintro v4 M4 C4 ⟨rfl, qa, rfl, hqa, hf4, hFa⟩
  refine ⟨by omega, fun qb hqb => ?_⟩
  simp only [cup_cst, cst_self]
  refine ⟨trivial, ⟨by omega, by omega⟩, trivial, ⟨by omega, by omega⟩, by omega, ?_⟩
  have hr4 := row1 hf4 hr3
  have nab : qa ≠ r := ne_new hr3 hqa
  have nbr : qb ≠ r := ne_new hr4 hqb
  have hr5 : cst C4 qb (2, 2, sr (sr (fun _ => 0) 0 1) 1 1) r = (1, 1, f3) := by rw [cst_ne (Ne.symm nbr)]; exact hr4
  refine s_nextF hr5 _ ?_
  rintro v6 M6 C6 ⟨rfl, hv6, ⟨f6, hr6⟩, hf6⟩
  have hf5 : LF [r] C (cst C4 qb (2, 2, sr (sr (fun _ => 0) 0 1) 1 1)) := (hf3.tr hf4.nil).new hqb
  have hf6' := hf5.tr hf6
  obtain ⟨p, hp⟩ : ∃ p : Nat, v1 % 12 = (p : Int) := ⟨(v1 % 12).toNat, by omega⟩
  obtain ⟨u, hu⟩ : ∃ u : Nat, v2 = (u : Int) := ⟨v2.toNat, by omega⟩
  obtain ⟨sv, hsv⟩ : ∃ sv : Nat, v3 % 6 = (sv : Int) := ⟨(v3 % 6).toNat, by omega⟩
  obtain ⟨L, hL⟩ : ∃ L : Nat, v6 % 10 = (L : Int) := ⟨(v6 % 10).toNat, by omega⟩
  rw [hp, hu] at hFa
  rw [hp, hu, hsv, hL]
  have hp11 : p ≤ 11 := by omega
  have hu4 : 1 ≤ u ∧ u ≤ 4 := by omega
  have hs5 : sv ≤ 5 := by omega
  have hL9 : L ≤ 9 := by omega
  have hx : ((p : Int) : Rat) / ((u : Int) : Rat) = mkRat (p : Int) u := by
    rw [Rat.mkRat_eq_div, Rat.intCast_natCast u]
  rw [hx] at hFa
  have lq : qa ≠ qb := fun z => absurd hqb (by rw [← z]; exact hFa.live)
  have hFa5 : FL (cst C4 qb (2, 2, sr (sr (fun _ => 0) 0 1) 1 1)) qa (mkRat (p : Int) u) := hFa.kept (S := []) (LF.rf.new hqb) List.not_mem_nil
  have hFb5 : FL (cst C4 qb (2, 2, sr (sr (fun _ => 0) 0 1) 1 1)) qb (1 : Rat) := FL.of2 (x := (1 : Rat))
  have hFa6 := hFa5.kept hf6 (nin1 nab)
  have hFb6 := hFb5.kept hf6 (nin1 nbr)
  have Bx : Bq (mkRat (p : Int) u) 11 4 := (Bq_mk (by omega)).mono (by omega) (by omega)
  rw [show ((qa + 1 : Nat) : Int).toNat = qa + 1 by omega]
  have fin : ∀ (M1 : Mem) (C1 : LMem) (kc qb : Nat) (o1 o5 o7 o8 o9 o10 : Option PV), kc ≤ 100 → IQ j l c n e g h t M1 → LF [r] C C1 → FL C1 qb (lossF (mkRat (p : Int) u) sv) → L_W_isLost_98 (d + 130) Q M1 C1 kc o1 p u sv o5 (qb + 1) o7 o8 o9 o10 := by
    intro M1 C1 kc qb o1 o5 o7 o8 o9 o10 hk hq hf hb
    refine b_W_isLost_98 ⟨by omega, ?_⟩
    refine c_lost hq ⟨by omega, by omega⟩ ⟨⟨by omega, by omega⟩, by omega, by omega⟩ ⟨by omega, by omega⟩ _ ?_
    rintro v m c' ⟨rfl, hq2, hc, rfl⟩
    rw [Int.toNat_natCast, Int.toNat_natCast] at hc ⊢
    refine ⟨by omega, ?_⟩
    have hBq := loss_Bq (n := sv) hp11 hu4 hs5
    refine s_isCame (d := d) hc (hBq.1.ok (by decide) (by decide)) hb _ ?_
    rintro v m c2 ⟨rfl, rfl, hf2⟩
    refine ⟨⟨by omega, by omega⟩, fun h => absurd h (by decide), fun _ => ⟨by omega, ?_⟩⟩
    refine c_lostNo hq2 (by omega) ⟨by omega, by omega⟩ ⟨by omega, by omega⟩ ⟨by omega, by omega⟩ ⟨by omega, by omega⟩ _ ?_
    rintro v m c3 ⟨rfl, rfl, rfl⟩
    exact ⟨⟨by omega, by omega⟩, fun h => absurd rfl h, fun _ => hQ _ _ _ ⟨rfl, hf.tr hf2.nil, hq2⟩⟩
  have loop : ∀ (k s : Nat) (M1 : Mem) (C1 : LMem) (kc qb : Nat) (i7 : Int) (o1 o10 : Option PV), s + k = sv + 1 → kc ≤ 10 + 4 * s → IQ j l c n e g h t M1 → LF [r] C C1 → FL C1 qa (mkRat (p : Int) u) → FL C1 qb (lossF (mkRat (p : Int) u) (s - 1)) → leastP (mkRat (p : Int) u) (mkRat (L : Int) 10) s i7 →
      L_W_isLost_41 (d + 130) Q M1 C1 kc o1 p u sv (qa + 1) (qb + 1) i7 L s o10 := by
    intro k
    induction k with
    | zero =>
      intro s M1 C1 kc qb i7 o1 o10 hs hk hq hf ha hb hl
      have e : s - 1 = sv := by omega
      rw [e] at hb
      refine b_W_isLost_41 ⟨⟨by omega, by omega⟩, ⟨by omega, by omega⟩, fun _ => ⟨by omega, ?_⟩, fun h => absurd (by omega) h⟩
      refine c_serversFor hq ⟨⟨by omega, by omega⟩, by omega, by omega⟩ ⟨⟨by omega, by omega⟩, by omega, by omega⟩ _ ?_
      rintro v m c' ⟨rfl, hq2, hv⟩
      rw [Int.toNat_natCast] at hv
      have t10 : (10 : Int).toNat = 10 := rfl
      rw [t10] at hv
      rcases hl with ⟨rfl, hl⟩ | ⟨m9, rfl, h1, h2, h3⟩
      · refine ⟨⟨by omega, by omega⟩, fun h => absurd h (by omega), fun _ => ?_⟩
        rcases hv with ⟨k9, g1, rfl, g2, g3⟩ | ⟨rfl, g2⟩
        · have : sv < k9 := by
            by_cases z : sv < k9
            · exact z
            · exact absurd g2 (hl k9 (by omega))
          exact ⟨⟨by omega, by omega⟩, fun _ => fin _ _ _ _ _ _ _ _ _ _ (by omega) hq2 hf hb, fun h => absurd (by omega) h⟩
        · exact ⟨⟨by omega, by omega⟩, fun h => absurd h (by omega), fun _ => ⟨fun h => absurd rfl h, fun _ => fin _ _ _ _ _ _ _ _ _ _ (by omega) hq2 hf hb⟩⟩
      · refine ⟨⟨by omega, by omega⟩, fun _ => ?_, fun h => absurd (by omega) h⟩
        rcases hv with ⟨k9, g1, rfl, g2, g3⟩ | ⟨rfl, g2⟩
        · have : k9 = m9 := by
            rcases Nat.lt_trichotomy k9 m9 with z | z | z
            · exact absurd g2 (h3 k9 z)
            · exact z
            · exact absurd h2 (g3 m9 z)
          subst this
          exact ⟨⟨by omega, by omega⟩, fun h => absurd rfl h, fun _ => fin _ _ _ _ _ _ _ _ _ _ (by omega) hq2 hf hb⟩
        · exact absurd h2 (g2 m9 (by omega))
    | succ k ih =>
      intro s M1 C1 kc qb i7 o1 o10 hs hk hq hf ha hb hl
      have c59 : ∀ (M1 : Mem) (C1 : LMem) (kc qb : Nat) (o1 o10 : Option PV), kc ≤ 10 + 4 * (s + 1) → IQ j l c n e g h t M1 → LF [r] C C1 → FL C1 qa (mkRat (p : Int) u) → FL C1 qb (lossF (mkRat (p : Int) u) s) → L_W_isLost_59 (d + 130) Q M1 C1 kc o1 p u sv (qa + 1) (qb + 1) i7 L s o10 := by
        intro M1 C1 kc qb o1 o10 hk hq hf ha hb
        have hb9 := hb
        obtain ⟨fb, b1, b2, b3⟩ := hb
        obtain ⟨⟨B1, B2⟩, B0⟩ := loss_Bq (n := s) hp11 hu4 (by omega)
        have hle := le_mk (b := lossF (mkRat (p : Int) u) s) (a := L) (w := 10) B0 (by decide)
        have hmul : (L : Int) * ((lossF (mkRat (p : Int) u) s).den : Int) ≤ 9 * 1805231 := Int.mul_le_mul (by omega) (by omega) (by omega) (by omega)
        have hmul0 : 0 ≤ (L : Int) * ((lossF (mkRat (p : Int) u) s).den : Int) := Int.mul_nonneg (by omega) (by omega)
        have hcm : ((lossF (mkRat (p : Int) u) s).den : Int) * (L : Int) = (L : Int) * ((lossF (mkRat (p : Int) u) s).den : Int) := Int.mul_comm _ _
        have h10 : ((10 : Nat) : Int) = 10 := rfl
        rw [hcm, h10] at hle
        rcases hl with ⟨rfl, hl⟩ | ⟨m9, rfl, h1, h2, h3⟩
        · refine b_W_isLost_59 ⟨⟨by omega, by omega⟩, fun h => absurd h (by omega), fun _ => ?_⟩
          show (C1 qb).1 = 2 ∧ _
          simp only [b1, cellAt, b2, b3]
          refine ⟨trivial, ⟨by omega, by omega⟩, ⟨by omega, by omega⟩, trivial, ⟨by omega, by omega⟩, ⟨by omega, by omega⟩, ⟨by omega, by omega⟩, fun hlt => ?_, fun hlt => ?_⟩
          · refine ih (s + 1) M1 C1 kc qb (-1) o1 o10 (by omega) hk hq hf ha hb9 (Or.inl ⟨rfl, fun k9 hk9 => ?_⟩)
            by_cases z : k9 = s
            · subst z
              exact fun w => absurd (hle.mp w) (by omega)
            · exact hl k9 (by omega)
          · exact ih (s + 1) M1 C1 kc qb (s : Int) o1 o10 (by omega) hk hq hf ha hb9 (Or.inr ⟨s, rfl, by omega, hle.mpr (by omega), hl⟩)
        · refine b_W_isLost_59 ⟨⟨by omega, by omega⟩, fun _ => ?_, fun h => absurd (by omega) h⟩
          exact ih (s + 1) M1 C1 kc qb (m9 : Int) o1 o10 (by omega) hk hq hf ha hb9 (Or.inr ⟨m9, rfl, by omega, h2, h3⟩)
      refine b_W_isLost_41 ⟨⟨by omega, by omega⟩, ⟨by omega, by omega⟩, fun h => absurd h (by omega), fun _ => ⟨fun h0 => ?_, fun h0 => ⟨by omega, ?_⟩⟩⟩
      · have e : s = 0 := by omega
        subst e
        exact c59 M1 C1 kc qb o1 o10 (by omega) hq hf ha hb
      · obtain ⟨s9, rfl⟩ : ∃ s9, s = s9 + 1 := ⟨s - 1, by omega⟩
        rw [Nat.add_sub_cancel] at hb
        obtain ⟨hB, -⟩ := loss_Bq (n := s9) hp11 hu4 (by omega)
        have hBm := Bx.mul hB
        refine s_times (d := d + 1) ha hb (Bx.okT hB (by decide) (by decide)) _ ?_
        rintro v m C2 ⟨rfl, qm, rfl, hqm, hf2, hm⟩
        refine ⟨by omega, ?_⟩
        refine s_of (d := d + 2) ⟨by omega, by omega⟩ ⟨by omega, by omega⟩ (by omega) _ ?_
        rintro v m C3 ⟨rfl, qn, rfl, hqn, hf3, hn9⟩
        refine ⟨by omega, ?_⟩
        rw [show ((qn + 1 : Nat) : Int).toNat = qn + 1 by omega, show ((qm + 1 : Nat) : Int).toNat = qm + 1 by omega]
        have hm3 := hm.kept hf3 List.not_mem_nil
        have hBn : Bq ((((s9 + 1 : Nat) : Int) : Rat) / ((1 : Int) : Rat)) 5 1 := (Bq_div (by decide)).mono (by omega) (by omega)
        refine s_sum (d := d + 1) hn9 hm3 (hBn.okS hBm (by decide) (by decide)) _ ?_
        rintro v m C4 ⟨rfl, qs, rfl, hqs, hf4, hs4⟩
        refine ⟨by omega, ?_⟩
        rw [show ((qs + 1 : Nat) : Int).toNat = qs + 1 by omega]
        obtain ⟨ne0, est⟩ := loss_step (p := p) (u := u) (n := s9) hu4.1
        refine s_by (d := d + 1) (hm3.kept hf4 List.not_mem_nil) hs4 (hBm.okD (hBn.add hBm) (by decide) (by decide) ne0) _ ?_
        rintro v m C5 ⟨rfl, qd, rfl, hqd, hf5, hd5⟩
        rw [est] at hd5
        rw [show ((qd + 1 : Nat) : Int).toNat = qd + 1 by omega]
        have hfa := ((hf2.tr hf3).tr hf4).tr hf5
        exact c59 _ C5 _ qd _ _ (by omega) hq (hf.tr hfa.nil) (ha.kept hfa List.not_mem_nil) hd5
  have := loop (sv + 1) 0 M6 C6 _ qb (-1) (some (.inr (.inr (.inl (r + 1))))) none (by omega) (show 0 + 0 + 0 + 0 + 1 + 1 + 0 ≤ 10 + 4 * 0 by omega) q hf6' hFa6 hFb6 (Or.inl ⟨rfl, fun k hk => absurd hk (Nat.not_lt_zero k)⟩)
  exact ⟨⟨by omega, by omega⟩, this⟩
