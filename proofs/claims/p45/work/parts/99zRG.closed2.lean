/-! isClosedNet, whole. -/
theorem frK_div {x y D : Nat} (hD : 0 < D) (hy : 0 < y) : frK x D / frK y D = mkRat ((x : Nat) : Int) y := by
  unfold frK
  rw [mkRat_ratio]
  have h1 : (((D : Nat) : Int) : Rat) ≠ 0 := int_ne (by omega)
  have h2 : (((y : Nat) : Int) : Rat) ≠ 0 := int_ne (by omega)
  generalize (((D : Nat) : Int) : Rat) = a at *
  generalize (((x : Nat) : Int) : Rat) = b
  generalize (((y : Nat) : Int) : Rat) = c at *
  grind
theorem mk_scale {g x y : Nat} (hg : 0 < g) (hy : 0 < y) : mkRat ((g * x : Nat) : Int) (g * y) = mkRat ((x : Nat) : Int) y := by
  rw [mkRat_ratio, mkRat_ratio, Int.natCast_mul, Int.natCast_mul, Rat.intCast_mul, Rat.intCast_mul]
  have h1 : (((g : Nat) : Int) : Rat) ≠ 0 := int_ne (by omega)
  have h2 : (((y : Nat) : Int) : Rat) ≠ 0 := int_ne (by omega)
  generalize (((g : Nat) : Int) : Rat) = a at *
  generalize (((x : Nat) : Int) : Rat) = b
  generalize (((y : Nat) : Int) : Rat) = c at *
  grind
/-- the loads by small numbers; what the sums come to -/
theorem lq_small {n : Nat} {cm sv Cc Ss : Nat → Int} {Tp A : Nat → Nat → Int} (hI : NIv n n cm sv Tp Cc Ss A) (hT : TIv n n Tp) (hn : 1 ≤ n ∧ n ≤ 3) (hO : nOk n Cc Ss A) (hcl : closedOk n Cc A) : ∃ (L : Nat → Nat) (K : Nat), (0 < K ∧ K ≤ 110592) ∧ (∀ i, i < n → 0 < L i ∧ L i ≤ 9216) ∧ (∀ i, i < n → lqQ n Ss A i = frK (L i) K) ∧ (∀ i, i < n → Bq (lqQ n Ss A i) 64 768) ∧ ∀ J x, clQ n Ss A J x = mkRat ((mnN L n J x (4 ^ n) : Nat) : Int) (smN L n J (4 ^ n)) ∨ smN L n J (4 ^ n) = 0 := by
  have hS12 : ∀ k, k < n → 1 ≤ Ss k ∧ Ss k ≤ 12 := fun k hk => by
    have := hI.1 k hk
    omega
  have hex : ∃ κ : Nat → Nat, ∀ i, i < n → 0 < κ i ∧ κ i ≤ 64 ∧ ctN n A i = 25 ^ (n - 1) * κ i := by
    refine ⟨fun i => if h : i < n then Classical.choose (ct_small hn hO hcl hI.2.2 hT.1 h) else 0, fun i hi => ?_⟩
    show 0 < (if h : i < n then _ else 0) ∧ (if h : i < n then _ else 0) ≤ 64 ∧ ctN n A i = 25 ^ (n - 1) * (if h : i < n then _ else 0)
    rw [dif_pos hi]
    exact Classical.choose_spec (ct_small hn hO hcl hI.2.2 hT.1 hi)
  obtain ⟨κ, hκ⟩ := hex
  have h0 := hκ 0 (by omega)
  have pA := prA_r12 (S := Ss) (n := n) hS12 n (Nat.le_refl n)
  have p12 : (12 : Nat) ^ n ≤ 1728 := by
    have : (12 : Nat) ^ n ≤ 12 ^ 3 := Nat.pow_le_pow_right (by decide) hn.2
    exact this
  have p12' : (12 : Nat) ^ (n - 1) ≤ 144 := by
    have : (12 : Nat) ^ (n - 1) ≤ 12 ^ 2 := Nat.pow_le_pow_right (by decide) (by omega)
    exact this
  have p25 : 0 < 25 ^ (n - 1) := Nat.pow_pos (by decide)
  have pS : ∀ i, i < n → 0 < prS Ss i n ∧ prS Ss i n ≤ 144 := fun i hi => by
    have := prS_r12 (S := Ss) (i := i) (n := n) hS12 hi n (Nat.le_refl n)
    rw [if_pos hi] at this
    omega
  have hlw : ∀ i, i < n → lwN n Ss A i = 25 ^ (n - 1) * (κ i * prS Ss i n) := fun i hi => by
    show ctN n A i * prS Ss i n = _
    rw [(hκ i hi).2.2, Nat.mul_assoc]
  have hL0 : ∀ i, i < n → 0 < κ i * prS Ss i n ∧ κ i * prS Ss i n ≤ 9216 := fun i hi => ⟨Nat.mul_pos (hκ i hi).1 (pS i hi).1, Nat.le_trans (Nat.mul_le_mul (hκ i hi).2.1 (pS i hi).2) (by decide)⟩
  refine ⟨fun i => κ i * prS Ss i n, κ 0 * prA Ss n, ⟨Nat.mul_pos h0.1 pA.1, Nat.le_trans (Nat.mul_le_mul h0.2.1 (Nat.le_trans pA.2 p12)) (by decide)⟩, hL0, fun i hi => ?_, fun i hi => ?_, fun J x => ?_⟩
  · show mkRat ((lwN n Ss A i : Nat) : Int) (clK n Ss A) = _
    rw [hlw i hi, show clK n Ss A = 25 ^ (n - 1) * (κ 0 * prA Ss n) by
      show ctN n A 0 * prA Ss n = _
      rw [h0.2.2, Nat.mul_assoc], mk_scale p25 (Nat.mul_pos h0.1 pA.1), mkRat_ratio]
  · rw [← lq_div hO hcl hi, (hκ i hi).2.2, h0.2.2, mk_scale p25 h0.1, mkRat_ratio]
    have hs := hS12 i hi
    have hs0 : ((Ss i : Int) : Rat) ≠ 0 := int_ne (by omega)
    have h1 : Bq ((((κ i : Nat) : Int) : Rat) / (((κ 0 : Nat) : Int) : Rat)) 64 64 := (Bq_div (by omega)).mono (by have := (hκ i hi).2.1; omega) (by omega)
    have h2 : Bq ((Ss i : Int) : Rat) 12 1 := (Bq_int (Ss i)).mono (by omega) (Nat.le_refl 1)
    exact (h1.div h2 hs0).mono (by decide) (by decide)
  · by_cases z : smN (fun i => κ i * prS Ss i n) n J (4 ^ n) = 0
    · exact Or.inr z
    · refine Or.inl ?_
      show mkRat ((mnN (lwN n Ss A) n J x (4 ^ n) : Nat) : Int) (smN (lwN n Ss A) n J (4 ^ n)) = _
      rw [mnN_scale (l := fun i => κ i * prS Ss i n) (g := 25 ^ (n - 1)) hlw, smN_scale (l := fun i => κ i * prS Ss i n) (g := 25 ^ (n - 1)) hlw, mk_scale (Nat.pow_pos p25) (Nat.pos_of_ne_zero z)]
section CLE
variable {d : Nat} {Q : LQ} {C0 C2 : LMem} {j : StJ} {l : StL} {c : StC} {e : StE} {g : StG} {h : StH} {t : StT} {r r4 r5 r6 q q12 n J D : Nat} {Pp : Nat → Nat} {cm sv Cc Ss : Nat → Int} {Tp A : Nat → Nat → Int} {lq : Nat → Rat} {Rq : Nat → Nat} {o1 o2 o3 o4 o6 o7 o9 o10 : Option PV} {F : Nat × (Nat → Nat)}
theorem cl_309 (hn : 1 ≤ n ∧ n ≤ 3) (hJ : J = 1 ∨ J = 2) (hcl : closedOk n Cc A) (hD : 0 < D ∧ D ≤ 12230590464) (hF1 : 0 < F.1 ∧ F.1 ≤ 509607936) (hF2 : ∀ k, k < n → F.2 k ≤ 339738624) (hF : ∀ k, k < n → clQ n Ss A J k = mkRat ((F.2 k : Nat) : Int) F.1) (hQ : ∀ M C, IQ j l c (n, Cc, Ss, A) e g h t M → LF [] C2 C → Q 1 M C) :
    ∀ (u k : Nat) (M : Mem) (C : LMem) (kc p : Nat) (R : Nat → Nat) (o14 o15 : Option PV), k + u = n → kc + 8 * u ≤ 1500 → IQ j l c (n, Cc, Ss, A) e g h t M → SMq C2 q q12 n D lq Rq p R F C → L_W_isClosedNet_309 (d + 131) Q M C kc o1 o2 o3 o4 (n : Int) o6 o7 (J : Int) o9 o10 (p + 1) q12 (k : Int) o14 o15 := by
  have r0 : R32 0 := ⟨by decide, by decide⟩
  intro u
  induction u with
  | zero =>
    intro k M C kc p R o14 o15 hk hkc q9 hS
    obtain rfl : k = n := by omega
    exact b_W_isClosedNet_309 ⟨⟨by omega, by omega⟩, ⟨by omega, by omega⟩, fun _ => hQ M C q9 hS.1, fun z => absurd (Int.le_refl _) z⟩
  | succ u ih =>
    intro k M C kc p R o14 o15 hk hkc q9 hS
    have hk9 : k < n := by omega
    refine b_W_isClosedNet_309 ⟨⟨by omega, by omega⟩, ⟨by omega, by omega⟩, fun z => absurd z (by omega), fun _ => ⟨by omega, ?_⟩⟩
    refine c_closed q9 (a := (J : Int)) (b := (k : Int)) (y := 0) (z := 0) (by omega) ⟨by omega, by show (k : Int) < (n : Int); omega⟩ r0 r0 _ ?_
    rintro v1 M1 C1 ⟨rfl, q1, ⟨z, -⟩ | ⟨-, hc1, hv1⟩⟩
    · exact absurd hcl z
    rw [Int.toNat_natCast, Int.toNat_natCast] at hc1 hv1
    have hc1 : CF M1 (clQ n Ss A J k) := hc1
    have hv1 : v1 = (clQ n Ss A J k).num.sign := hv1
    rw [hF k hk9] at hc1 hv1
    obtain ⟨hl, hV, hp, hm⟩ := id hS
    obtain ⟨f, m1, m2⟩ := id hm
    obtain ⟨m3, m4⟩ := m2 k hk9
    have m4 : FL C1 (R k) (frK (F.2 k) D) := m4
    have hk2 := hF2 k hk9
    have B1 : Bq (frK (F.2 k) D) 339738624 12230590464 := (frK_bq hD.1).mono hk2 hD.2
    have B2 : Bq (frK F.1 D) 509607936 12230590464 := (frK_bq hD.1).mono hF1.2 hD.2
    have hne : frK F.1 D ≠ 0 := fun z => by
      unfold frK at z
      have h1 : (((D : Nat) : Int) : Rat) ≠ 0 := int_ne (by omega)
      have h2 : (((F.1 : Nat) : Int) : Rat) ≠ 0 := int_ne (by omega)
      generalize (((D : Nat) : Int) : Rat) = a at *
      generalize (((F.1 : Nat) : Int) : Rat) = b at *
      grind
    simp only [m1, m3, Int.toNat_natCast]
    refine ⟨⟨by decide, by decide⟩, ⟨by omega, by omega⟩, by omega, ?_⟩
    refine s_by (d := d + 2) m4 hp (B1.okD B2 (by decide) (by decide) hne) _ ?_
    rintro v2 M2 C3 ⟨rfl, p2, rfl, -, l2, h2⟩
    rw [frK_div hD.1 hF1.1] at h2
    have B3 : Bq (mkRat ((F.2 k : Nat) : Int) F.1) 339738624 509607936 := (Bq_mk hF1.1).mono (by omega) hF1.2
    rw [hv1]
    refine ⟨by omega, ?_⟩
    rw [Int.toNat_natCast]
    refine s_isCame (d := d + 1) hc1 (B3.ok (by decide) (by decide)) h2 _ ?_
    rintro v3 M3 C4 ⟨rfl, rfl, l3⟩
    refine ⟨⟨by decide, by decide⟩, fun _ => ?_, fun z => absurd z (by decide)⟩
    rw [show (k : Int) + 1 = ((k + 1 : Nat) : Int) by omega]
    have L := l2.tr l3
    exact ih (k + 1) M3 C4 _ p R _ _ (by omega) (by omega) q1 ⟨hl.tr L, hV.off L, hp.kept L zzL, hm.off L⟩
end CLE
theorem closed_ok (d : Nat) : ClosedOK (d + 132) := fun {M C0 C j l c e g h t r r4 r5 r6 n Pp cm sv Cc Ss Tp A} hn q hW hI hT Q hQ => by
  have r0 : R32 0 := ⟨by decide, by decide⟩
  have hO : nOk n Cc Ss A := q.nt.1
  have hcm : ∀ i, i < n → 0 ≤ cm i ∧ cm i ≤ 8 := fun i hi => (hI.1 i hi).2.1
  refine e_W_isClosedNet (b_W_isClosedNet_0 ⟨⟨by omega, by omega⟩, by rw [Int.toNat_natCast]; unfold lcost; omega, fun qm hqm => ?_⟩)
  rw [Int.toNat_natCast]
  have hkc0 : 0 + lcost n ≤ 5 := by unfold lcost; omega
  generalize 0 + lcost n = kc at *
  refine cl_7 (d := d) (C1 := C) hn hT.1 hcm hW.2.1 hqm (fun C3 i7 o2 o9 o10 f hl3 hm3 hf3 h7 => ?_) n 0 _ 1 _ _ (fun _ => 0) (by omega) (LF.rf.new hqm) cst_self (fun i hi => absurd hi (Nat.not_lt_zero i)) (Or.inl ⟨rfl, fun i hi => absurd hi (Nat.not_lt_zero i)⟩)
  have hMv : MvI n Tp A 0 0 (fun i => 2 ^ i) := by
    refine ⟨fun i hi => ⟨Nat.pow_lt_pow_right (by decide) hi, fun x hx => ?_⟩, fun i x hi hx => ⟨fun w => ?_, fun w => absurd w (Nat.not_lt_zero i)⟩⟩
    · rw [bit_pow, decide_eq_true_iff] at hx
      rw [← hx]
      exact ⟨hi, Rch.refl i⟩
    · have w : i = x := w
      show (2 ^ i).testBit x = true
      rw [bit_pow, w]
      exact decide_eq_true rfl
  refine cl_50 (d := d) (C1 := C) hn hT.1 hI.2.2 hW.2.1 hqm (fun C4 o9 o10 f4 L hl4 hm4 hf4 hL => ?_) (n + 1) 0 C3 _ _ f (fun i => 2 ^ i) (by omega) hl3 hm3 hf3 hMv
  refine cl_86 (d := d) (P0 := ∀ i, i < n → rowS Tp i n = 4 ∧ cm i = 0) hn hqm hm4 hf4 hL (fun i7 o9 o10 w7 => ?_) n 0 i7 _ _ (by omega) (h7.cg ⟨fun w => ⟨w, fun i hi => absurd hi (Nat.not_lt_zero i)⟩, fun w => w.1⟩)
  have hcl9 : ((∀ i, i < n → rowS Tp i n = 4 ∧ cm i = 0) ∧ ∀ i, i < n → ∀ x, x < n → Rch (cEE n A) i x) ↔ closedOk n Cc A := by
    constructor
    · rintro ⟨w1, w2⟩ i hi
      exact ⟨by rw [(hI.1 i hi).1.1]; exact (w1 i hi).2, by rw [row_25 n (fun k hk => hI.2.2 i k hi hk), (w1 i hi).1]; rfl, fun x hx => w2 i hi x hx⟩
    · intro w
      refine ⟨fun i hi => ?_, fun i hi x hx => (w i hi).2.2 x hx⟩
      obtain ⟨w1, w2, -⟩ := w i hi
      rw [(hI.1 i hi).1.1] at w1
      rw [row_25 n (fun k hk => hI.2.2 i k hi hk)] at w2
      exact ⟨by omega, w1⟩
  have hv7 := w7.cg hcl9
  have hb7 := w7.bit
  have hW4 := hW.off hl4
  obtain ⟨x0, hr⟩ := hW4.1.1
  refine b_W_isClosedNet_86 ⟨⟨by omega, by omega⟩, ⟨by omega, by omega⟩, fun _ => ⟨by omega, ?_⟩, fun z => absurd (Int.le_refl _) z⟩
  refine s_fromF hr (by omega) (by omega) _ ?_
  rintro v1 M1 C5 ⟨rfl, hv1, hr5, hf5⟩
  have hW5 := hW4.rnd hf5 hr5
  obtain ⟨J, rfl⟩ : ∃ k : Nat, v1 = (k : Int) := ⟨v1.toNat, by omega⟩
  have hJ : J = 1 ∨ J = 2 := by omega
  refine ⟨by omega, fun z => ?_, fun z => ⟨by omega, ?_⟩⟩
  · -- the net is closed
    have hcl : closedOk n Cc A := hv7.yes.mp z
    obtain ⟨Lw, K, hK, hLr, hlq, hBq, hclq⟩ := lq_small hI hT hn hO hcl
    obtain ⟨hD9, hval⟩ := clT_sol hO hcl
    refine ⟨⟨by omega, by omega⟩, ⟨by omega, by omega⟩, by omega, fun q2 hq2 => ?_⟩
    rw [show ((n : Int) + 1).toNat = n + 1 by omega]
    rw [Int.toNat_natCast] at hq2 ⊢
    have hF2 : MxF C5 q2 n (fun i => q2 + 1 + i) := ⟨by have := hq2 0 (Nat.zero_le n); rw [Nat.add_zero] at this; exact this, fun i hi => by have := hq2 (i + 1) (by omega); rw [show q2 + (i + 1) = q2 + 1 + i by omega] at this; exact this⟩
    have hl6 : LF [] C5 (cmn C5 q2 n 7 6 (n + 1)) := LF.rf.mkn hq2
    refine cl_143 (d := d) (C2 := C5) hn hI.2.2 hT.1 hF2 (fun C7 kc7 o11 y1 y2 y3 y4 => ?_) n 0 _ _ _ (by omega) (by omega) hl6 (hW5.2.1.off hl6) ((MRq.mk (X := clT n A) hq2).cg fun a b _ _ w => absurd w (Nat.not_lt_zero a))
    refine b_W_isClosedNet_143 ⟨⟨by omega, by omega⟩, ⟨by omega, by omega⟩, fun _ => ⟨by omega, ?_⟩, fun z => absurd (Int.le_refl _) z⟩
    refine s_solves (d := d + 1) hn.2 (clT_nT hI.2.2 hT.1) hD9 hF2 y2 y4 _ ?_
    rintro v2 M2 C8 ⟨rfl, q9, Rq, rfl, l8, hq9, hV8⟩
    rw [Int.toNat_natCast]
    -- the rows are those of before the equations
    have hT8 : NTq C8 r4 r5 r6 n Pp cm sv Tp := hW5.2.1.off l8
    refine cl_203 (d := d) (C2 := C5) hI hT hn hO hcl (fun C9 kc9 R9 z1 z2 z3 => ?_) n 0 C8 _ Rq (by omega) (by omega) l8 hq9 hT8 (hV8.cgw fun i hi => (if_neg (Nat.not_lt_zero i)).symm)
    refine b_W_isClosedNet_203 ⟨⟨by omega, by omega⟩, ⟨by omega, by omega⟩, fun _ => ⟨by omega, fun p0 hp0 => ?_⟩, fun z => absurd (Int.le_refl _) z⟩
    have hb : cst C9 p0 (2, 2, fun _ => 0) p0 = (2, 2, fun _ => 0) := cst_self
    simp only [cst_self, cup_of hb, cup_cst]
    have hlA : LF [] C9 (cst (cst C9 p0 (2, 2, fun _ => 0)) p0 (2, 2, sr (sr (fun _ => 0) 0 0) 1 1)) := (LF.rf.new hp0).set hp0
    have hxA : FL (cst (cst C9 p0 (2, 2, fun _ => 0)) p0 (2, 2, sr (sr (fun _ => 0) 0 0) 1 1)) p0 0 := FL.set rfl rfl
    refine ⟨trivial, ⟨by decide, by decide⟩, trivial, ⟨by decide, by decide⟩, ⟨by omega, by omega⟩, by rw [Int.toNat_natCast]; unfold lcost; omega, fun q12 hq12 => ?_⟩
    rw [Int.toNat_natCast]
    generalize cst (cst C9 p0 (2, 2, fun _ => 0)) p0 (2, 2, sr (sr (fun _ => 0) 0 0) 1 1) = CA at *
    have hVA := z3.off hlA
    have lA : LF [] C5 CA := z2.tr hlA
    have hq12' : (C5 q12).1 = 0 := lA.free hq12
    have hne : q12 ≠ q9 := fun w => by
      obtain ⟨fv, a1, -⟩ := hVA
      rw [← w] at a1
      rw [a1] at hq12
      exact absurd (show (6 : Nat) = 0 from hq12) (by decide)
    -- zeros in the row of the means
    have hFis := fo_is (l := Lw) hn hJ
    have hFr := fo_r (l := Lw) hn hJ (B := 9216) (by decide) (fun k hk => (hLr k hk).2)
    have hD12 : 0 < (if J = 2 then K * K else K) ∧ (if J = 2 then K * K else K) ≤ 12230590464 := by
      split
      · exact ⟨Nat.mul_pos hK.1 hK.1, Nat.le_trans (Nat.mul_le_mul hK.2 hK.2) (by decide)⟩
      · omega
    have hFp : 0 < (fO J n Lw n 0 s00).1 := by
      rw [hFis.1]
      obtain ⟨j1, j2⟩ := jS_one n (by omega) (by omega) J (by omega)
      exact smN_pos j1 (shN_r (s := J) (B := 9216) (n := n) (by decide) hLr n (Nat.le_refl n)).1 _ j2
    have l237 : ∀ (u k : Nat) (C' : LMem) (kk : Nat) (R : Nat → Nat) (w : Nat → Rat) (o14 o15 : Option PV), k + u = n → kk + u ≤ 1300 → LF [] C5 C' → VQ C' q9 n n R9 (fun i => lqQ n Ss A i) → FL C' p0 0 → VQ C' q12 n k R w → (∀ i, i < k → w i = 0) → L_W_isClosedNet_237 (d + 131) Q M2 C' kk (some (.inr (.inr (.inl (r + 1))))) o2 (some (.inr (.inr (.inl (r5 + 1))))) (some (.inr (.inr (.inl (r6 + 1))))) (n : Int) (some (.inr (.inr (.inl (qm + 1))))) (some (.inl i7)) (J : Int) (some (.inr (.inr (.inl (q2 + 1))))) (q9 + 1) p0 q12 (k : Int) o14 o15 := by
      intro u
      induction u with
      | zero =>
        intro k C' kk R w o14 o15 hk hkk hl' hV' hp' hm' hw
        obtain rfl : k = n := by omega
        refine b_W_isClosedNet_237 ⟨⟨by omega, by omega⟩, ⟨by omega, by omega⟩, fun _ => ?_, fun z => absurd (Int.le_refl _) z⟩
        refine cl_250 (d := d) (C2 := C5) (L := Lw) (F := fO J k Lw k 0 s00) hn hJ hK rfl hlq hBq hq12' hne hFr.1 (fun x hx => hFr.2 x hx) (fun C4 kc4 p4 R4 o10 o14 o15 x1 x2 => ?_) k 0 C' kk p0 R s00 _ _ (by omega) (by omega) ⟨hl', hV', ?_, hm'.cgw fun i hi => ?_⟩ rfl
        · refine cl_309 (d := d) (C2 := C5) (lq := fun i => lqQ k Ss A i) hn hJ hcl hD12 ⟨hFp, hFr.1⟩ (fun x hx => hFr.2 x hx) (fun x hx => ?_) (fun M C w1 w2 => hQ 1 M C ⟨rfl, w1, hW5.1.off w2⟩) k 0 M2 C4 kc4 p4 R4 _ _ (by omega) (by omega) q x2
          rcases hclq J x with w9 | w9
          · rw [w9, ← hFis.1, ← hFis.2 x hx]
          · rw [← hFis.1] at w9
            omega
        · show FL C' p0 (frK 0 _)
          rw [frK_0]
          exact hp'
        · show w i = frK 0 _
          rw [frK_0, hw i hi]
      | succ u ih =>
        intro k C' kk R w o14 o15 hk hkk hl' hV' hp' hm' hw
        have hk9 : k < n := by omega
        refine b_W_isClosedNet_237 ⟨⟨by omega, by omega⟩, ⟨by omega, by omega⟩, fun z => absurd z (by omega), fun _ => ⟨by omega, ?_⟩⟩
        refine s_of (d := d + 3) (by unfold A63; decide) (by unfold A63; decide) (by decide) _ ?_
        rintro w1 M1' C1' ⟨rfl, p1, rfl, -, l1, h1⟩
        have e0 : ((0 : Int) : Rat) / ((1 : Int) : Rat) = 0 := by decide +kernel
        rw [e0] at h1
        have hm1 := hm'.off l1
        obtain ⟨fm, a1, a2⟩ := id hm1
        obtain ⟨gg, y1', y2', y3'⟩ := id h1
        simp only [a1, codeOk, elK, y1', cup_of a1, Int.toNat_natCast]
        refine ⟨⟨by decide, by decide⟩, ⟨by omega, by omega⟩, trivial, ?_⟩
        rw [show (k : Int) + 1 = ((k + 1 : Nat) : Int) by omega]
        refine ih (k + 1) _ _ _ _ _ _ (by omega) (by omega) ((hl'.tr l1).set hq12') ((hV'.off l1).othz a1 (by decide) hne) ((hp'.kept l1 zzL).oth a1 (by decide)) (hm1.set a1 h1) (fun i hi => ?_)
        show (if i = k then (0 : Rat) else w i) = 0
        by_cases e : i = k
        · rw [if_pos e]
        · rw [if_neg e]; exact hw i (by omega)
    refine l237 n 0 _ _ (fun _ => 0) (fun _ => 0) _ _ (by omega) (by unfold lcost; omega) (lA.new hq12) (hVA.off (LF.rf.new hq12)) (hxA.kept (LF.rf.new hq12) zzL) ⟨_, cst_self, fun i hi => absurd hi (Nat.not_lt_zero i)⟩ (fun i hi => absurd hi (Nat.not_lt_zero i))
  · -- it isn't
    have hno : ¬ closedOk n Cc A := fun w => absurd (hv7.yes.mpr w) (fun y => z y)
    refine c_closed q (a := (J : Int)) (b := 0) (y := 0) (z := 0) (by omega) ⟨by decide, by show (0 : Int) < (n : Int); omega⟩ r0 r0 _ ?_
    rintro v2 M2 C6 ⟨rfl, q2, ⟨-, rfl⟩ | ⟨w, -⟩⟩
    · refine ⟨⟨by decide, by decide⟩, fun z => absurd rfl z, fun _ => ⟨by omega, ?_⟩⟩
      refine c_closedNo q2 (a := 4) (b := 0) (y := 0) (z := 0) (by omega) ⟨by decide, by decide⟩ ⟨by decide, by show (0 : Int) < (n : Int); omega⟩ r0 r0 _ ?_
      rintro v3 M3 C7 ⟨rfl, rfl, rfl⟩
      exact ⟨⟨by decide, by decide⟩, fun z => absurd rfl z, fun _ => hQ 1 _ _ ⟨rfl, q2, hW5.1⟩⟩
    · exact absurd w hno
theorem net_ok : NetOK := fun {M C j l c n e g h t r f} q hr => net_ok0 (d := 67) (closed_ok 67) q hr
theorem law_pure : PureOK := law_pure0 net_ok e4_ok
