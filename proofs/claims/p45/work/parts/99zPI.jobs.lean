/-! isPlay, its first half: jobs come, a line is told. -/
def JCs (r a b : Nat) (j : StJ) (l : StL) (C : LMem) : Prop := (∃ f, C r = (1, 1, f)) ∧ (∃ f, C a = (1, 120, f) ∧ ∀ i, i < 4 * j.1 → f i = j.2 i) ∧ ∃ f, C b = (1, 10, f) ∧ f 0 = (j.1 : Int) ∧ f 2 = l.2.1
theorem LF.trN {S S2 : List Nat} {C C' C'' : LMem} (h : LF S C C') (g : LF S2 C' C'') (hn : ∀ q, q ∈ S2 → (C q).1 = 0) : LF S C C'' := fun k hk => by
  obtain ⟨h1, h2, h3⟩ := h k hk
  obtain ⟨g1, g2, g3⟩ := g k (by rw [h1]; exact hk)
  have e : k ∉ S2 := fun z => hk (hn k z)
  exact ⟨g1.trans h1, g2.trans h2, fun z => (g3 e).trans (h3 z)⟩
theorem JCs.off {r a b : Nat} {j : StJ} {l : StL} {C C' : LMem} (h : JCs r a b j l C) (hf : LF [r] C C') (ha : a ≠ r) (hb : b ≠ r) : JCs r a b j l C' := by
  obtain ⟨⟨f, h1⟩, ⟨fa, h2, h3⟩, fb, h4, h5⟩ := h
  obtain ⟨g, hg⟩ := hf.row (k := 0) h1
  exact ⟨⟨g, hg⟩, ⟨fa, hf.at' (k := 0) (nin1 ha) h2, h3⟩, fb, hf.at' (k := 0) (nin1 hb) h4, h5⟩
section IP
variable {d : Nat} {Q : LQ} {C0 : LMem} {c : StC} {n : StN} {e : StE} {g : StG} {t : StT} {r a b : Nat}
/-- a job more -/
theorem ip_7 (hab : a ≠ r ∧ b ≠ r ∧ a ≠ b) {i4 : Int} (h4 : 0 ≤ i4 ∧ i4 ≤ 5)
    (hN : ∀ (M : Mem) (C : LMem) (kc : Nat) (j : StJ) (l : StL) (h : StH) (o4 o5 o6 : Option PV), kc ≤ 30 → IQ j l c n e g h t M → LF [r, a, b] C0 C → JCs r a b j l C → L_W_isPlay_124 (d + 130) Q M C kc r a b o4 o5 o6 none none none none none none none none none none none none none none)
    (hQ : ∀ (M : Mem) (C : LMem) (j : StJ) (l : StL) (h : StH), IQ j l c n e g h t M → LF [r, a, b] C0 C → JCs r a b j l C → Q 1 M C) :
    ∀ (m k : Nat) (M : Mem) (C : LMem) (kc : Nat) (j : StJ) (l : StL) (h : StH) (o6 : Option PV), i4 ≤ k + m → k + m ≤ 90 → kc + 3 * m ≤ 20 → IQ j l c n e g h t M → LF [r, a, b] C0 C → JCs r a b j l C → L_W_isPlay_7 (d + 130) Q M C kc r a b i4 (k : Int) o6 none none none none none none none none none none none none none none := by
  intro m
  induction m with
  | zero =>
    intro k M C kc j l h o6 hk hkm hkc q hf hj
    exact b_W_isPlay_7 ⟨⟨by omega, by omega⟩, ⟨by omega, by omega⟩, fun _ => hN M C kc j l h _ _ _ (by omega) q hf hj, fun z => absurd (by omega) z⟩
  | succ m ih =>
    intro k M C kc j l h o6 hk hkm hkc q hf hj
    have hj0 := hj
    obtain ⟨⟨fr, hr⟩, ⟨fa, ha, haj⟩, fb, hb, hb0, hb2⟩ := hj
    have hV := q.jobR
    have h24 := hV.1
    refine b_W_isPlay_7 ⟨⟨by omega, by omega⟩, ⟨by omega, by omega⟩, fun _ => hN M C kc j l h _ _ _ (by omega) q hf hj0, fun z => ?_⟩
    simp only [hb, ha, hb0]
    refine ⟨trivial, ⟨by omega, by omega⟩, ⟨by omega, by omega⟩, fun _ => hN M C kc j l h _ _ _ (by omega) q hf hj0, fun z2 => ?_⟩
    -- the time of the last one
    have go47 : ∀ (M1 : Mem) (C1 : LMem) (fa1 : Nat → Int) (x : Int) (o6 : Option PV), M1 = M → (∃ f, C1 r = (1, 1, f)) → C1 a = (1, 120, fa1) → C1 b = (1, 10, fb) → LF [r, a, b] C0 C1 → (∀ i, i < 4 * j.1 → fa1 i = j.2 i) → fa1 (4 * j.1) = x → (0 ≤ x ∧ x ≤ 509) → (j.1 = 0 ∨ j.2 (4 * (j.1 - 1)) ≤ x) → L_W_isPlay_47 (d + 130) Q M1 C1 (kc + 0) r a b i4 (k : Int) (4 * (j.1 : Int)) none none none none none none none none none none none none none none := by
      intro M1 C1 fa1 x o6 hM hr1 ha1 hb1 hf1 haj1 hx hxr hord
      subst hM
      obtain ⟨f1, hr1⟩ := hr1
      have go63 : ∀ (M2 : Mem) (C2 : LMem) (fa2 : Nat → Int) (y : Int) (kc2 : Nat), kc2 = kc + 0 + 0 + 0 → M2 = M1 → (∃ f, C2 r = (1, 1, f)) → C2 a = (1, 120, fa2) → C2 b = (1, 10, fb) → LF [r, a, b] C0 C2 → (∀ i, i < 4 * j.1 → fa2 i = j.2 i) → fa2 (4 * j.1) = x → fa2 (4 * j.1 + 1) = y → (1 ≤ y ∧ y ≤ 30) → L_W_isPlay_63 (d + 130) Q M2 C2 kc2 r a b i4 (k : Int) (4 * (j.1 : Int)) none none none none none none none none none none none none none none := by
        intro M2 C2 fa2 y kc2 hkc2 hM hr2 ha2 hb2' hf2 haj2 hx2 hy2 hyr
        subst hM
        subst hkc2
        obtain ⟨f2, hr2⟩ := hr2
        refine b_W_isPlay_63 ⟨by omega, ?_⟩
        refine s_nextF hr2 _ ?_
        rintro v3 M3 C3 ⟨rfl, hv3, ⟨f3, hr3⟩, hf3⟩
        have ha3 := hf3.at' (k := 0) (nin1 hab.1) ha2
        have hb3 := hf3.at' (k := 0) (nin1 hab.2.1) hb2'
        simp only [ha3, cup_of ha3]
        rw [show (4 * (j.1 : Int) + 2).toNat = 4 * j.1 + 2 by omega]
        refine ⟨⟨by omega, by omega⟩, trivial, ⟨by omega, by omega⟩, by omega, ?_⟩
        have hr4 : cst C3 a (1, 120, sr fa2 (4 * j.1 + 2) (v3 % 3)) r = (1, 1, f3) := by rw [cst_ne (Ne.symm hab.1)]; exact hr3
        refine s_fromF hr4 (by omega) (by omega) _ ?_
        rintro v5 M5 C5 ⟨rfl, hv5, ⟨f5, hr5⟩, hf5⟩
        have ha5 := hf5.at' (k := 0) (nin1 hab.1) (cst_self (C := C3) (q := a) (x := (1, 120, sr fa2 (4 * j.1 + 2) (v3 % 3))))
        have hb5 : C5 b = (1, 10, fb) := hf5.at' (k := 0) (nin1 hab.2.1) (by rw [cst_ne (Ne.symm hab.2.2)]; exact hb3)
        have m1 : ∀ z, z ∈ [r] → z ∈ [r, a, b] := fun z hz => by rw [List.mem_singleton.mp hz]; exact List.mem_cons_self
        have hf6 : LF [r, a, b] C0 C5 := ((hf2.tr (hf3.mono m1)).own (by simp) ha3).tr (hf5.mono m1)
        simp only [ha5, cup_of ha5, cst_self]
        simp only [show (4 * (j.1 : Int) + 3).toNat = 4 * j.1 + 3 by omega, show (4 * (j.1 : Int)).toNat = 4 * j.1 by omega, show (4 * (j.1 : Int) + 1).toNat = 4 * j.1 + 1 by omega, show (4 * (j.1 : Int) + 2).toNat = 4 * j.1 + 2 by omega]
        have w0 : sr (sr fa2 (4 * j.1 + 2) (v3 % 3)) (4 * j.1 + 3) v5 (4 * j.1) = x := by rw [sr_ne (by omega), sr_ne (by omega)]; exact hx2
        have w1 : sr (sr fa2 (4 * j.1 + 2) (v3 % 3)) (4 * j.1 + 3) v5 (4 * j.1 + 1) = y := by rw [sr_ne (by omega), sr_ne (by omega)]; exact hy2
        have w2 : sr (sr fa2 (4 * j.1 + 2) (v3 % 3)) (4 * j.1 + 3) v5 (4 * j.1 + 2) = v3 % 3 := by rw [sr_ne (by omega), sr_same]
        have w3 : sr (sr fa2 (4 * j.1 + 2) (v3 % 3)) (4 * j.1 + 3) v5 (4 * j.1 + 3) = v5 := sr_same
        have wl : ∀ i, i < 4 * j.1 → sr (sr fa2 (4 * j.1 + 2) (v3 % 3)) (4 * j.1 + 3) v5 i = j.2 i := fun i hi => by rw [sr_ne (by omega), sr_ne (by omega)]; exact haj2 i hi
        generalize sr (sr fa2 (4 * j.1 + 2) (v3 % 3)) (4 * j.1 + 3) v5 = fa6 at *
        rw [w0, w1, w2, w3]
        have hf7 : LF [r, a, b] C0 (cst C5 a (1, 120, fa6)) := hf6.own (by simp) ha5
        have hr7 : cst C5 a (1, 120, fa6) r = (1, 1, f5) := by rw [cst_ne (Ne.symm hab.1)]; exact hr5
        have hb7 : cst C5 a (1, 120, fa6) b = (1, 10, fb) := by rw [cst_ne (Ne.symm hab.2.2)]; exact hb5
        refine ⟨trivial, ⟨by omega, by omega⟩, trivial, ⟨by omega, by omega⟩, ⟨by omega, by omega⟩, fun hle => ⟨⟨by omega, by omega⟩, ⟨by omega, by omega⟩, ⟨by omega, by omega⟩, by omega, ?_⟩, fun hle => hQ M5 _ j l h q hf7 ⟨⟨f5, hr7⟩, ⟨fa6, cst_self, wl⟩, fb, hb7, hb0, hb2⟩⟩
        have hjo : jobOk x y (v3 % 3) v5 := ⟨⟨by omega, by omega⟩, ⟨by omega, by omega⟩, ⟨by omega, by omega⟩, by omega, by omega⟩
        refine c_come q hjo ⟨by omega, hord⟩ _ ?_
        rintro v8 M8 C8 ⟨rfl, rfl, hq8⟩
        simp only [hb7, cup_of hb7, hb0]
        have hf9 : LF [r, a, b] C0 (cst (cst C5 a (1, 120, fa6)) b (1, 10, sr fb 0 ((j.1 : Int) + 1))) := hf7.own (by simp) hb7
        refine ⟨trivial, ⟨by omega, by omega⟩, ⟨by omega, by omega⟩, ⟨by omega, by omega⟩, fun _ => ?_, fun w => absurd trivial w⟩
        have key := ih (k + 1) M8 (cst (cst C5 a (1, 120, fa6)) b (1, 10, sr fb 0 ((j.1 : Int) + 1))) (kc2 + 0 + 0 + 3) _ l _ (some (.inl (4 * (j.1 : Int)))) (by omega) (by omega) (by omega) hq8 hf9 ⟨⟨f5, by rw [cst_ne (Ne.symm hab.2.1)]; exact hr7⟩, ⟨fa6, by rw [cst_ne hab.2.2]; exact cst_self, fun i hi => ?_⟩, _, cst_self, by rw [sr_same]; show (j.1 : Int) + 1 = ((j.1 + 1 : Nat) : Int); omega, by rw [sr_ne (by decide)]; exact hb2⟩
        · exact key
        · show fa6 i = add4 j.2 j.1 x y (v3 % 3) v5 i
          obtain ⟨p1, p2, p3, p4⟩ := add4_at (f := j.2) (n := j.1) (a := x) (b := y) (c := v3 % 3) (e := v5)
          have hi : i < 4 * (j.1 + 1) := hi
          by_cases e0 : i < 4 * j.1
          · rw [add4_lo e0]; exact wl i e0
          · rcases (show i = 4 * j.1 ∨ i = 4 * j.1 + 1 ∨ i = 4 * j.1 + 2 ∨ i = 4 * j.1 + 3 by omega) with z9 | z9 | z9 | z9
            · rw [z9, p1, w0]
            · rw [z9, p2, w1]
            · rw [z9, p3, w2]
            · rw [z9, p4, w3]
      refine b_W_isPlay_47 ⟨by omega, ?_⟩
      refine s_nextF hr1 _ ?_
      rintro v2 M2 C2 ⟨rfl, hv2, ⟨f2, hr2⟩, hf2⟩
      have ha2 := hf2.at' (k := 0) (nin1 hab.1) ha1
      have hb2' := hf2.at' (k := 0) (nin1 hab.2.1) hb1
      have m1 : ∀ z, z ∈ [r] → z ∈ [r, a, b] := fun z hz => by rw [List.mem_singleton.mp hz]; exact List.mem_cons_self
      refine ⟨⟨by omega, by omega⟩, ⟨by omega, by omega⟩, fun _ => ⟨by omega, ?_⟩, fun _ => ⟨by omega, ?_⟩⟩
      all_goals
        refine s_fromF hr2 (by omega) (by omega) _ ?_
        rintro v3 M3 C3 ⟨rfl, hv3, ⟨f3, hr3⟩, hf3⟩
        have ha3 := hf3.at' (k := 0) (nin1 hab.1) ha2
        have hb3 := hf3.at' (k := 0) (nin1 hab.2.1) hb2'
        simp only [ha3, cup_of ha3]
        rw [show (4 * (j.1 : Int) + 1).toNat = 4 * j.1 + 1 by omega]
        refine ⟨trivial, ⟨by omega, by omega⟩, go63 _ _ (sr fa1 (4 * j.1 + 1) v3) v3 _ rfl rfl ⟨f3, by rw [cst_ne (Ne.symm hab.1)]; exact hr3⟩ cst_self (by rw [cst_ne (Ne.symm hab.2.2)]; exact hb3) (((hf1.tr (hf2.mono m1)).tr (hf3.mono m1)).own (by simp) ha3) (fun i hi => by rw [sr_ne (by omega)]; exact haj1 i hi) (by rw [sr_ne (by omega)]; exact hx) sr_same ⟨by omega, by omega⟩⟩
    have m1 : ∀ z, z ∈ [r] → z ∈ [r, a, b] := fun z hz => by rw [List.mem_singleton.mp hz]; exact List.mem_cons_self
    have fin : ∀ (M1 : Mem) (C1 : LMem) (f1 : Nat → Int) (x : Int), M1 = M → C1 r = (1, 1, f1) → C1 a = (1, 120, fa) → C1 b = (1, 10, fb) → LF [r, a, b] C0 C1 → (0 ≤ x ∧ x ≤ 509) → (j.1 = 0 ∨ j.2 (4 * (j.1 - 1)) ≤ x) → L_W_isPlay_47 (d + 130) Q M1 (cst C1 a (1, 120, sr fa (4 * j.1) x)) (kc + 0) r a b i4 (k : Int) (4 * (j.1 : Int)) none none none none none none none none none none none none none none := by
      intro M1 C1 f1 x hM hr1 ha1 hb1 hf1 hxr hord
      exact go47 M1 _ (sr fa (4 * j.1) x) x none hM ⟨f1, by rw [cst_ne (Ne.symm hab.1)]; exact hr1⟩ cst_self (by rw [cst_ne (Ne.symm hab.2.2)]; exact hb1) (hf1.own (by simp) ha1) (fun i hi => by rw [sr_ne (by omega)]; exact haj i hi) sr_same hxr hord
    refine ⟨fun z3 => ⟨trivial, ⟨by omega, by omega⟩, by omega, ?_⟩, fun z3 => ⟨by omega, ?_⟩⟩
    · have hlast := hV.2.1 (j.1 - 1) (by omega)
      have hl0 : fa (4 * (j.1 : Int) - 4).toNat = j.2 (4 * (j.1 - 1)) := by
        rw [show (4 * (j.1 : Int) - 4).toNat = 4 * (j.1 - 1) by omega]
        exact haj _ (by omega)
      unfold jobOk at hlast
      rw [hl0]
      refine s_nextF hr _ ?_
      rintro v1 M1 C1 ⟨rfl, hv1, ⟨f1, hr1⟩, hf1⟩
      have ha1 := hf1.at' (k := 0) (nin1 hab.1) ha
      have hb1 := hf1.at' (k := 0) (nin1 hab.2.1) hb
      refine ⟨⟨by omega, by omega⟩, ⟨by omega, by omega⟩, fun _ => ⟨by omega, ?_⟩, fun _ => ?_⟩
      · refine s_fromF hr1 (by omega) (by omega) _ ?_
        rintro v2 M2 C2 ⟨rfl, hv2, ⟨f2, hr2⟩, hf2⟩
        have ha2 := hf2.at' (k := 0) (nin1 hab.1) ha1
        have hb2' := hf2.at' (k := 0) (nin1 hab.2.1) hb1
        simp only [ha2, cup_of ha2]
        rw [show (4 * (j.1 : Int)).toNat = 4 * j.1 by omega]
        exact ⟨trivial, ⟨by omega, by omega⟩, fin M2 C2 f2 _ rfl hr2 ha2 hb2' ((hf.tr (hf1.mono m1)).tr (hf2.mono m1)) ⟨by omega, by omega⟩ (Or.inr (by omega))⟩
      · simp only [ha1, cup_of ha1]
        rw [show (4 * (j.1 : Int)).toNat = 4 * j.1 by omega]
        exact ⟨trivial, ⟨by omega, by omega⟩, fin M1 C1 f1 _ rfl hr1 ha1 hb1 (hf.tr (hf1.mono m1)) ⟨by omega, by omega⟩ (Or.inr (by omega))⟩
    · have hz : j.1 = 0 := by omega
      refine s_nextF hr _ ?_
      rintro v1 M1 C1 ⟨rfl, hv1, ⟨f1, hr1⟩, hf1⟩
      have ha1 := hf1.at' (k := 0) (nin1 hab.1) ha
      have hb1 := hf1.at' (k := 0) (nin1 hab.2.1) hb
      refine ⟨⟨by omega, by omega⟩, ⟨by omega, by omega⟩, fun _ => ⟨by omega, ?_⟩, fun _ => ?_⟩
      · refine s_fromF hr1 (by omega) (by omega) _ ?_
        rintro v2 M2 C2 ⟨rfl, hv2, ⟨f2, hr2⟩, hf2⟩
        have ha2 := hf2.at' (k := 0) (nin1 hab.1) ha1
        have hb2' := hf2.at' (k := 0) (nin1 hab.2.1) hb1
        simp only [ha2, cup_of ha2]
        rw [show (4 * (j.1 : Int)).toNat = 4 * j.1 by omega]
        exact ⟨trivial, ⟨by omega, by omega⟩, fin M2 C2 f2 _ rfl hr2 ha2 hb2' ((hf.tr (hf1.mono m1)).tr (hf2.mono m1)) ⟨by omega, by omega⟩ (Or.inl hz)⟩
      · simp only [ha1, cup_of ha1]
        rw [show (4 * (j.1 : Int)).toNat = 4 * j.1 by omega]
        exact ⟨trivial, ⟨by omega, by omega⟩, fin M1 C1 f1 _ rfl hr1 ha1 hb1 (hf.tr (hf1.mono m1)) ⟨by omega, by omega⟩ (Or.inl hz)⟩
end IP
