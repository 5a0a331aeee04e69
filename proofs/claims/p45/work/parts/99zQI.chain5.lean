/-! isChain, but for what is reached. -/
section CHI
variable {d : Nat} {Q : LQ} {C0 : LMem} {j : StJ} {l : StL} {nt : StN} {e : StE} {g : StG} {h : StH} {t : StT} {r r4 r5 r7 n : Nat} {b : Int} {A : Nat → Nat → Int} {P PB : Nat → Nat} {T B : Nat → Nat → Int} {R : Nat → Nat} {w : Nat → Rat} {M : Mem}
theorem ch_341 {o6 : Option PV} (hn : 1 ≤ n ∧ n ≤ 4) (hb4 : 1 ≤ b ∧ b ≤ 4) (hO : cOk n b A) (hla : lawful n b A) (hTA : ∀ y x, y < n → x < n → A y x = T y x) (hBr : ∀ y x, y < n → x < n → tv (Rch (cEE n A) y x) (B y x)) (hw : ∀ k, k < n → SHq n b A k (w k))
    (hR : ∀ (C : LMem), CWq C0 r r4 r5 n P T PB B C → lcal (d + 130) cW_isReached [oH, .inr (.inr (.inl (r + 1))), .inr (.inr (.inl (r4 + 1))), .inr (.inr (.inl (r5 + 1))), .inl (n : Int), .inl b] M C (fun v1 M1 C1 => (v1 = 0 ∨ v1 = 1) ∧ Q v1 M1 C1)) :
    ∀ (u i : Nat) (C : LMem) (kc : Nat) (o9 o10 o11 : Option PV), i + u = n → kc + 20 * u ≤ 1000 → CVq C0 r r4 r5 r7 n P T PB B n R w C → L_W_isChain_341 (d + 130) Q M C kc r (n : Int) b r4 r5 o6 r7 (i : Int) o9 o10 o11 := by
  intro u
  induction u with
  | zero =>
    intro i C kc o9 o10 o11 hi hkc hV
    obtain rfl : i = n := by omega
    exact b_W_isChain_341 ⟨⟨by omega, by omega⟩, ⟨by omega, by omega⟩, fun _ => ⟨by omega, hR C hV.1⟩, fun z => absurd (Int.le_refl _) z⟩
  | succ u ih =>
    intro i C kc o9 o10 o11 hi hkc hV
    refine b_W_isChain_341 ⟨⟨by omega, by omega⟩, ⟨by omega, by omega⟩, fun z => absurd z (by omega), fun _ => ⟨by omega, fun q1 hq1 => ?_⟩⟩
    have hb : cst C q1 (2, 2, fun _ => 0) q1 = (2, 2, fun _ => 0) := cst_self
    simp only [cst_self, cup_of hb, cup_cst]
    refine ⟨trivial, ⟨by decide, by decide⟩, trivial, ⟨by decide, by decide⟩, by omega, fun q2 hq2 => ?_⟩
    have hl1 : LF [] C (cst (cst C q1 (2, 2, fun _ => 0)) q1 (2, 2, sr (sr (fun _ => 0) 0 0) 1 1)) := (LF.rf.new hq1).set hq1
    generalize hC1 : cst (cst C q1 (2, 2, fun _ => 0)) q1 (2, 2, sr (sr (fun _ => 0) 0 0) 1 1) = C1 at *
    have hx : FL C1 q1 0 := by rw [← hC1]; exact FL.set rfl rfl
    refine ⟨trivial, ⟨by decide, by decide⟩, trivial, ⟨by decide, by decide⟩, ?_⟩
    have hl2 : LF [] C1 (cst C1 q2 (2, 2, sr (sr (fun _ => 0) 0 0) 1 1)) := LF.rf.new hq2
    obtain ⟨N, D, hst⟩ := st_nums hO hla hn.2 hb4.2 hw (show i < n by omega)
    have zz : ∀ x : Nat, x ∉ ([] : List Nat) := fun x hx => by cases hx
    refine ch_368 hn hb4 hO hla hTA hBr hw (by omega) hst (kc0 := kc + 2) (by omega) (fun C kc' o9 o10 o11 z1 z2 => ih (i + 1) C kc' _ _ _ (by omega) (by omega) z2) n 0 _ _ q1 q2 0 (by omega) (by omega) ((hV.off hl1).off hl2) ?_ (FL.set rfl rfl) (fun _ => ?_)
    · have : ((sumT (fun y => N y * A y i) 0 : Int) : Rat) / ((D * b : Int) : Rat) = 0 := by
        show ((0 : Int) : Rat) / _ = 0
        have e0 : ((0 : Int) : Rat) = 0 := rfl
        rw [e0]
        generalize ((D * b : Int) : Rat) = z
        grind
      rw [this]
      exact hx.kept hl2 (zz _)
    · show (0 : Rat) = ((0 : Int) : Rat) / _
      have e0 : ((0 : Int) : Rat) = 0 := rfl
      rw [e0]
      generalize ((D : Int) : Rat) = z
      grind
end CHI
/-- what isReached is asked -/
def ReachOK (d : Nat) : Prop := ∀ {M : Mem} {C0 C : LMem} {j : StJ} {l : StL} {nt : StN} {e : StE} {g : StG} {h : StH} {t : StT} {r r4 r5 n : Nat} {b : Int} {A : Nat → Nat → Int} {P PB : Nat → Nat} {T B : Nat → Nat → Int}, (1 ≤ n ∧ n ≤ 4) → (1 ≤ b ∧ b ≤ 4) → lawful n b A → IQ j l (n, b, A) nt e g h t M → (∀ y x, y < n → x < n → A y x = T y x) → (∀ y x, y < n → x < n → tv (Rch (cEE n A) y x) (B y x)) → CWq C0 r r4 r5 n P T PB B C → LPo (d + 1) cW_isReached [oH, .inr (.inr (.inl (r + 1))), .inr (.inr (.inl (r4 + 1))), .inr (.inr (.inl (r5 + 1))), .inl (n : Int), .inl b] M C (fun v m c' => v = 1 ∧ IQ j l (n, b, A) nt e g h t m ∧ CBq C0 r c')
theorem s_isChain {d r : Nat} {M : Mem} {C : LMem} {j : StJ} {l : StL} {c : StC} {nt : StN} {e : StE} {g : StG} {h : StH} {t : StT} {f : Nat → Int} (HR : ReachOK (d + 130)) (q : IQ j l c nt e g h t M) (hr : C r = (1, 1, f)) : LPo (d + 132) cW_isChain [oH, .inr (.inr (.inl (r + 1)))] M C (fun v m c' => v = 1 ∧ LF [r] C c' ∧ ∃ c9, IQ j l c9 nt e g h t m) := fun Q hQ => by
  have hB0 : CBq C r C := ⟨⟨f, hr⟩, LF.rf, by rw [hr]; exact Nat.succ_ne_zero 0⟩
  refine e_W_isChain (b_W_isChain_0 ⟨by omega, ?_⟩)
  refine s_fromF hr (by omega) (by omega) _ ?_
  rintro v1 M1 C1 ⟨rfl, hv1, ⟨f1, hr1⟩, hf1⟩
  have hB1 := hB0.rnd hf1 ⟨f1, hr1⟩
  refine ⟨by omega, ?_⟩
  refine s_fromF hr1 (by omega) (by omega) _ ?_
  rintro v2 M2 C2 ⟨rfl, hv2, ⟨f2, hr2⟩, hf2⟩
  have hB2 := hB1.rnd hf2 ⟨f2, hr2⟩
  obtain ⟨n, rfl⟩ : ∃ k : Nat, v1 = (k : Int) := ⟨v1.toNat, by omega⟩
  refine ⟨by omega, ?_⟩
  refine c_states q (s := (n : Int)) (b := v2) (y := 0) (z := 0) ⟨⟨by omega, by omega⟩, by omega, by omega⟩ ⟨by decide, by decide⟩ ⟨by decide, by decide⟩ _ ?_
  rintro v3 M3 C3 ⟨rfl, hv3, q3⟩
  rw [Int.toNat_natCast] at q3
  have hb4 : 1 ≤ v2 ∧ v2 ≤ 4 := hv2
  have hn : 1 ≤ n ∧ n ≤ 4 := by omega
  rw [Int.toNat_natCast]
  refine ⟨⟨by omega, by omega⟩, fun _ => ⟨by omega, by omega, fun r4 hr4 => ?_⟩, fun z => absurd hv3.1 z⟩
  have hB3 : CBq C r (cmn C3 r4 n 4 1 n) := ⟨by
    obtain ⟨x, hx⟩ := hB2.1
    exact ⟨x, by rw [cmn_off hr4 (by rw [hx]; exact Nat.succ_ne_zero 0)]; exact hx⟩, hB2.2.1.mkn hr4, hB2.2.2⟩
  have hM3 : MxQ 3 0 (cmn C3 r4 n 4 1 n) r4 n n (fun i => r4 + 1 + i) (fun _ _ => 0) := MxQ.mk hr4
  have hF3 : MxF C r4 n (fun i => r4 + 1 + i) := ⟨hB2.2.1.free (by have := hr4 0 (Nat.zero_le n); rw [Nat.add_zero] at this; exact this), fun i hi => hB2.2.1.free (by have := hr4 (i + 1) (by omega); rw [show r4 + (i + 1) = r4 + 1 + i by omega] at this; exact this)⟩
  refine ch_27 (d := d + 1) hn hb4 (fun M C4 kc' P T A o6 o7 o8 o9 o10 o11 z1 hB hM hF q4 hD => ?_) n 0 M3 _ _ _ _ (cId v2) none none none none none none (by omega) (by omega) hB3 hM3 hF3 q3 (fun y hy => absurd hy (Nat.not_lt_zero y))
  have hTA : ∀ y x, y < n → x < n → A y x = T y x := fun y x hy hx => ((hD y hy).1 x hx).1
  have hla : lawful n v2 A := fun y hy => by rw [← (hD y hy).2]; exact rowS_cg n fun x hx => hTA y x hy hx
  have hT9 : ∀ y x, y < n → x < n → 0 ≤ T y x ∧ T y x ≤ v2 := fun y x hy hx => ((hD y hy).1 x hx).2
  refine b_W_isChain_27 ⟨⟨by omega, by omega⟩, ⟨by omega, by omega⟩, fun _ => ⟨⟨by omega, by omega⟩, by rw [Int.toNat_natCast]; omega, fun r5 hr5 => ?_⟩, fun z => absurd (Int.le_refl _) z⟩
  rw [Int.toNat_natCast] at hr5 ⊢
  have hW : CWq C r r4 r5 n P T (fun i => r5 + 1 + i) (fun _ _ => 0) (cmn C4 r5 n 5 3 n) := ⟨⟨by
    obtain ⟨x, hx⟩ := hB.1
    exact ⟨x, by rw [cmn_off hr5 (by rw [hx]; exact Nat.succ_ne_zero 0)]; exact hx⟩, hB.2.1.mkn hr5, hB.2.2⟩, hM.ocmn hr5, hF, MxQ.mk hr5, hB.2.1.free (by have := hr5 0 (Nat.zero_le n); rw [Nat.add_zero] at this; exact this), fun i hi => hB.2.1.free (by have := hr5 (i + 1) (by omega); rw [show r5 + (i + 1) = r5 + 1 + i by omega] at this; exact this)⟩
  refine ch_140 (d := d + 1) hn.2 (fun y x hy hx => by have := hT9 y x hy hx; omega) (fun C5 B o7 o8 o9 o10 o11 hW5 hB5 => ?_) n 0 _ _ _ _ _ _ _ (by omega) hW (fun y x hy => absurd hy (Nat.not_lt_zero y))
  refine ch_171 (d := d + 1) (E := cEE n A) hn.2 (by omega) (fun C6 B6 q7 o9 o10 o11 hW6 hq7 hB6 => ?_) n 0 _ _ _ _ _ _ _ (by omega) hW5 (fun y x hy hx => (hB5 y x hy hx).cg ⟨fun z => z.imp id fun z => ⟨by omega, hy, hx, by rw [hTA y x hy hx]; exact z⟩, fun z => z.imp id fun z => by rw [← hTA y x hy hx]; exact z.2.2.2⟩)
  have hBr : ∀ y x, y < n → x < n → tv (Rch (cEE n A) y x) (B6 y x) := fun y x hy hx => (hB6 y x hy hx).cg (Wk.all fun a c z => z.2.1)
  have hz7 := hW6.1.2.1.free hq7
  refine ch_220 (d := d + 1) (r7 := q7) hn hb4 hla hBr (fun M7 C7 kc7 R w o6 o9 o10 o11 k1 k2 k3 k4 => ?_) n 0 M _ _ 0 (fun _ => 0) (fun _ => 0) _ _ _ (by omega) (by unfold lcost; omega) q4 ⟨hW6.new hq7, hz7, _, cst_self, fun i hi => absurd hi (Nat.not_lt_zero i)⟩ (fun k hk => absurd hk (Nat.not_lt_zero k)) rfl
  refine ch_341 (d := d + 1) hn hb4 k2.ch.1 hla hTA hBr k4 (fun C8 hW8 => ?_) n 0 C7 kc7 _ _ _ (by omega) (by omega) k3
  refine HR hn hb4 hla k2 hTA hBr hW8 _ ?_
  rintro v9 M9 C9 ⟨rfl, q9, hB9⟩
  exact ⟨Or.inr rfl, hQ _ _ _ ⟨rfl, hB9.2.1, _, q9⟩⟩
