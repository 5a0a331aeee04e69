/-! isEnvelope, whole. -/
section IE4
variable {d : Nat} {Q : LQ} {C0 : LMem} {j : StJ} {l : StL} {c : StC} {n : StN} {g : StG} {h : StH} {t : StT} {r : Nat} {b a p : Int} {o2 o3 o7 : Option PV}
set_option maxHeartbeats 4000000 in
theorem ie_201 (hQ : ∀ (M : Mem) (C : LMem) (e : StE), IQ j l c n e g h t M → LF [r] C0 C → (∃ f, C r = (1, 1, f)) → Q 1 M C) {cnt : Nat} (hc : 1 ≤ cnt ∧ cnt ≤ 4) :
    ∀ (u m : Nat) (M : Mem) (C : LMem) (kc : Nat) (L B P : Nat → Int) (q : Nat) (A D : Int) (o13 o14 o15 : Option PV), m + u = cnt → kc + 4 * u ≤ 200 → IQ j l c n (b, a, p, m, L, B, P) g h t M → LF [r] C0 C → (∃ f, C r = (1, 1, f)) → FL C q ((A : Rat) / (D : Rat)) → (1 ≤ A ∧ A ≤ 1000) ∧ (1 ≤ D ∧ D ≤ 99) → bestOf A D m B P → L_W_isEnvelope_201 (d + 130) Q M C kc r o2 o3 b a p o7 (cnt : Int) (eSum L m) (q + 1) (m : Int) o13 o14 o15 := by
  intro u
  induction u with
  | zero =>
    intro m M C kc L B P q A D o13 o14 o15 hm hkc hq hf hr hx hAD hb
    obtain rfl : m = cnt := by omega
    exact ie_end hQ hc (by omega) hq hf hr hx hb
  | succ u ih =>
    intro m M C kc L B P q A D o13 o14 o15 hm hkc hq hf hr hx hAD hb
    obtain ⟨f, hr⟩ := hr
    refine b_W_isEnvelope_201 ⟨⟨by omega, by omega⟩, ⟨by omega, by omega⟩, fun z => absurd z (by omega), fun _ => ⟨by omega, ?_⟩⟩
    refine s_nextF hr _ ?_
    rintro v1 M1 C1 ⟨rfl, hv1, ⟨f1, hr1⟩, hf1⟩
    refine ⟨by omega, by omega, ?_⟩
    refine s_fromF hr1 (by omega) (by omega) _ ?_
    rintro v2 M2 C2 ⟨rfl, hv2, ⟨f2, hr2⟩, hf2⟩
    refine ⟨by omega, ?_⟩
    refine s_fromF hr2 (by omega) (by omega) _ ?_
    rintro v3 M3 C3 ⟨rfl, hv3, ⟨f3, hr3⟩, hf3⟩
    have hqr : q ≠ r := fun z => by
      obtain ⟨fq, h1, -⟩ := hx
      rw [z, hr] at h1
      have h9 : (1 : Nat) = 2 := congrArg Prod.fst h1
      omega
    have hf9 : LF [r] C C3 := (hf1.tr hf2).tr hf3
    have hx3 := hx.kept hf9 (nin1 hqr)
    obtain ⟨fq, hq1, hq2, hq3⟩ := id hx3
    have hB := Bq_div (a := A) (b := D) (by omega)
    have hcm := cmp_x (c := v3) (v := v2) (show 0 < D by omega) (rfl : (A : Rat) / (D : Rat) = (A : Rat) / (D : Rat))
    have hbs := best_s (v := v2) (w := v3) hb hv2 hv3
    obtain ⟨u1, u2⟩ := id hB
    have hnn : 0 < ((A : Rat) / (D : Rat)).den := Rat.den_pos _
    have s1 := prod_a (x := v2) (k := 9) (y := (((A : Rat) / (D : Rat)).den : Int)) (l := 99) ⟨by omega, by omega⟩ ⟨by omega, by omega⟩ (by decide)
    have s2 := prod_a (x := ((A : Rat) / (D : Rat)).num) (k := 1000) (y := v3) (l := 9) ⟨by omega, by omega⟩ ⟨by omega, by omega⟩ (by decide)
    have hsum : eSum (sr L m (v1 % 9)) (m + 1) = eSum L m + v1 % 9 := by
      show eSum (sr L m (v1 % 9)) m + sr L m (v1 % 9) m = _
      rw [eSum_congr m (fun i hi => sr_ne (by omega)), sr_same]
    -- the server
    have go : ∀ (C4 : LMem) (kc4 q4 : Nat) (A4 D4 : Int), kc4 + 4 * u + 3 ≤ 200 → LF [r] C0 C4 → (∃ f, C4 r = (1, 1, f)) → FL C4 q4 ((A4 : Rat) / (D4 : Rat)) → (1 ≤ A4 ∧ A4 ≤ 1000) ∧ (1 ≤ D4 ∧ D4 ≤ 99) → bestOf A4 D4 (m + 1) (sr B m v2) (sr P m v3) → L_W_isEnvelope_244 (d + 130) Q M3 C4 kc4 r o2 o3 b a p o7 (cnt : Int) (eSum L m + v1 % 9) (q4 + 1) (m : Int) (v1 % 9) v2 v3 := by
      intro C4 kc4 q4 A4 D4 hk4 hf4 hr4 hx4 hAD4 hb4
      refine b_W_isEnvelope_244 ⟨by omega, ?_⟩
      refine c_server hq (a := v1 % 9) (b := v2) (x := v3) (z := 0) ⟨⟨by omega, by omega⟩, ⟨by omega, by omega⟩, by omega, by omega⟩ (by show m < 4; omega) ⟨by decide, by decide⟩ _ ?_
      rintro v M5 C5 ⟨rfl, rfl, hq5⟩
      have hq5 : IQ j l c n (b, a, p, m + 1, sr L m (v1 % 9), sr B m v2, sr P m v3) g h t M5 := hq5
      show R32 ((m + 1 : Nat) : Int) ∧ R32 ((m : Int) + 1) ∧ (((m + 1 : Nat) : Int) = (m : Int) + 1 → _) ∧ (¬ ((m + 1 : Nat) : Int) = (m : Int) + 1 → _)
      refine ⟨⟨by omega, by omega⟩, ⟨by omega, by omega⟩, fun _ => ?_, fun z => absurd (by omega) z⟩
      have key := ih (m + 1) M5 C5 (kc4 + 3) _ _ _ q4 A4 D4 (some (.inl (v1 % 9))) (some (.inl v2)) (some (.inl v3)) (by omega) (by omega) hq5 hf4 hr4 hx4 hAD4 hb4
      rw [hsum] at key
      exact key
    refine ⟨⟨by omega, by omega⟩, ⟨by omega, by omega⟩, ?_⟩
    simp only [cellAt, hq1, hq2, hq3]
    refine ⟨trivial, ⟨by omega, by omega⟩, trivial, ⟨by omega, by omega⟩, ⟨by omega, by omega⟩, ⟨by omega, by omega⟩, ⟨by omega, by omega⟩, fun z => ?_, fun z => ⟨by omega, ?_⟩⟩
    · rw [if_pos (hcm.1.mp z)] at hbs
      exact go C3 _ q A D (by omega) (hf.tr hf9) ⟨f3, hr3⟩ hx3 hAD hbs
    · rw [if_neg (fun w => z (hcm.1.mpr w))] at hbs
      refine s_of (d := d + 2) (by unfold A63; omega) (by unfold A63; omega) (by omega) _ ?_
      rintro v6 M6 C6 ⟨rfl, q6, rfl, n6, f6, l6⟩
      rw [Int.toNat_natCast]
      have zz : ∀ x : Nat, x ∉ ([] : List Nat) := fun x hx => by cases hx
      exact go C6 _ q6 v2 v3 (by omega) ((hf.tr hf9).tr f6.nil) ⟨f3, f6.at' (k := 0) (zz _) hr3⟩ l6 ⟨⟨by omega, by omega⟩, by omega, by omega⟩ hbs
theorem ie_170 (hQ : ∀ (M : Mem) (C : LMem) (e : StE), IQ j l c n e g h t M → LF [r] C0 C → (∃ f, C r = (1, 1, f)) → Q 1 M C) {M : Mem} {C : LMem} {kc : Nat} {L B P : Nat → Int} {o8 o9 o10 o11 : Option PV} (hkc : kc ≤ 60) (hq : IQ j l c n (b, a, p, 0, L, B, P) g h t M) (hf : LF [r] C0 C) (hr : ∃ f, C r = (1, 1, f)) : L_W_isEnvelope_170 (d + 130) Q M C kc r o2 o3 b a p o7 o8 o9 o10 o11 none none none none := by
  obtain ⟨f, hr⟩ := hr
  refine b_W_isEnvelope_170 ⟨by omega, ?_⟩
  refine c_bound hq (a := 0) (x := 0) (y := 0) (z := 0) ⟨by decide, by decide⟩ ⟨by decide, by decide⟩ ⟨by decide, by decide⟩ ⟨by decide, by decide⟩ _ ?_
  rintro v1 M1 C1 ⟨rfl, hq1, ⟨-, rfl⟩ | ⟨w, -⟩⟩
  · refine ⟨⟨by decide, by decide⟩, fun _ => ⟨by omega, ?_⟩, fun z => absurd rfl z⟩
    refine s_fromF hr (by omega) (by omega) _ ?_
    rintro v2 M2 C2 ⟨rfl, hv2, ⟨f2, hr2⟩, hf2⟩
    refine ⟨by omega, fun q3 hq3 => ?_⟩
    have hb : cst C2 q3 (2, 2, fun _ => 0) q3 = (2, 2, fun _ => 0) := cst_self
    simp only [cst_self, cup_of hb, cup_cst]
    have hb1 : cst C2 q3 (2, 2, sr (fun _ => 0) 0 1000) q3 = (2, 2, sr (fun _ => 0) 0 1000) := cst_self
    refine ⟨trivial, ⟨by decide, by decide⟩, trivial, ⟨by decide, by decide⟩, ?_⟩
    obtain ⟨cnt, rfl⟩ : ∃ k : Nat, v2 = (k : Int) := ⟨v2.toNat, by omega⟩
    have r3 := ne_new hr2 hq3
    refine ie_201 hQ (cnt := cnt) (by omega) cnt 0 M2 _ _ L B P q3 1000 1 _ _ _ (by omega) (by omega) hq1 (((hf.tr hf2).new hq3).set ((hf.tr hf2).free hq3)) ⟨f2, by rw [cst_ne (Ne.symm r3), cst_ne (Ne.symm r3)]; exact hr2⟩ ⟨_, cst_self, ?_, ?_⟩ ⟨⟨by decide, by decide⟩, by decide, by decide⟩ (Or.inl ⟨rfl, rfl, rfl⟩)
    · rw [(R_def (a := 1000) (b := 1) (by decide)).1]
      rfl
    · rw [(R_def (a := 1000) (b := 1) (by decide)).2]
      rfl
  · exact absurd w.1 (Nat.lt_irrefl 0)
theorem s_isEnvelope {aa bb : Nat} {e : StE} {M : Mem} {C : LMem} (q : IQ j l c n e g h t M) (hj : JCs r aa bb j l C) : LPo (d + 131) cW_isEnvelope [oH, .inr (.inr (.inl (r + 1))), .inr (.inr (.inl (aa + 1))), .inr (.inr (.inl (bb + 1)))] M C (fun v m c' => v = 1 ∧ LF [r] C c' ∧ ∃ e', IQ j l c n e' g h t m) := fun Q hQ => by
  have hQ' : ∀ (M' : Mem) (C' : LMem) (e : StE), IQ j l c n e g h t M' → LF [r] C C' → (∃ f, C' r = (1, 1, f)) → Q 1 M' C' := fun M' C' e h1 h2 h3 => hQ 1 M' C' ⟨rfl, h2, e, h1⟩
  obtain ⟨⟨f, hr⟩, ⟨fa, ha, hfa⟩, fb, hb, hb0, hb2⟩ := hj
  have har : aa ≠ r := fun z => by rw [z, hr] at ha; have h9 : (1 : Nat) = 120 := congrArg (fun x : LCel => x.2.1) ha; omega
  have hbr : bb ≠ r := fun z => by rw [z, hr] at hb; have h9 : (1 : Nat) = 10 := congrArg (fun x : LCel => x.2.1) hb; omega
  refine e_W_isEnvelope (b_W_isEnvelope_0 ⟨by omega, ?_⟩)
  refine s_nextF hr _ ?_
  rintro v1 M1 C1 ⟨rfl, hv1, ⟨f1, hr1⟩, hf1⟩
  refine ⟨by omega, by omega, ?_⟩
  refine s_nextF hr1 _ ?_
  rintro v2 M2 C2 ⟨rfl, hv2, ⟨f2, hr2⟩, hf2⟩
  refine ⟨by omega, by omega, ?_⟩
  refine s_fromF hr2 (by omega) (by omega) _ ?_
  rintro v3 M3 C3 ⟨rfl, hv3, ⟨f3, hr3⟩, hf3⟩
  refine ⟨by omega, ?_⟩
  refine c_envelope q (a := v1 % 60) (b := v2 % 5) (x := v3) (z := 0) ⟨⟨by omega, by omega⟩, ⟨by omega, by omega⟩, by omega, by omega⟩ ⟨by decide, by decide⟩ _ ?_
  rintro v4 M4 C4 ⟨rfl, hv4, hq4⟩
  have hq5 := hq4 (fun _ => 0) (fun _ => 0) (fun _ => 0)
  have hf9 : LF [r] C C4 := (hf1.tr hf2).tr hf3
  have ha9 := hf9.at' (k := 0) (nin1 har) ha
  have hb9 := hf9.at' (k := 0) (nin1 hbr) hb
  refine ⟨⟨by omega, by omega⟩, fun _ => ?_, fun z => absurd hv4.1 z⟩
  · exact ie_29 (d := d) (Q := Q) (C0 := C) (o12 := none) (o13 := none) (o14 := none) (o15 := none) hq5 ⟨f3, hr3⟩ ha9 hb9 hfa hb0 hf9 (kc := 0 + 0 + 0 + 0 + 3) (by omega) (fun C kc o2 o3 o7 o8 o9 o10 o11 hk h1 h2 => ie_170 hQ' hk hq5 h1 h2) j.1 0 1 none none none (by omega) (Or.inl ⟨rfl, fun i' k' h3 h4 h5 => by omega⟩)
end IE4
