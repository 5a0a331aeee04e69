/-! isPlay, whole. -/
section IP4
variable {d : Nat} {Q : LQ} {C0 : LMem} {j : StJ} {l : StL} {c : StC} {n : StN} {e : StE} {g : StG} {h : StH} {t : StT} {r a b : Nat}
theorem ip_170 (hab : a ≠ r ∧ b ≠ r ∧ a ≠ b) (hex : (C0 r).1 ≠ 0 ∧ (C0 a).1 ≠ 0 ∧ (C0 b).1 ≠ 0)
    (hQ : ∀ (M : Mem) (C : LMem) (j : StJ) (l : StL) (h : StH), IQ j l c n e g h t M → LF [r, a, b] C0 C → JCs r a b j l C → Q 1 M C)
    {M : Mem} {C : LMem} {kc : Nat} {fa fb : Nat → Int} {o4 o6 : Option PV} (hkc : kc ≤ 30) (q : IQ j l c n e g h t M) (hr : ∃ f, C r = (1, 1, f)) (ha : C a = (1, 120, fa)) (hb : C b = (1, 10, fb)) (hfa : ∀ i, i < 4 * j.1 → fa i = j.2 i) (hfb : fb 0 = (j.1 : Int))
    (hf : LF [r, a, b] C0 C) (hl : lineOk (fb 1) (fb 2) (fb 3) (fb 4)) (hR : R32 l.2.1) : L_W_isPlay_170 (d + 130) Q M C kc r a b o4 l.2.1 o6 none none none none none none none none none none none none none none := by
  have hV := q.jobR
  have h24 := hV.1
  have hl' := hl
  unfold lineOk at hl'
  refine b_W_isPlay_170 ?_
  simp only [hb]
  refine ⟨trivial, ⟨by omega, by omega⟩, ⟨by omega, by omega⟩, ⟨by omega, by omega⟩, ⟨by omega, by omega⟩, by omega, ?_⟩
  refine c_line q hl _ ?_
  rintro v1 M1 C1 ⟨rfl, rfl, q1⟩
  refine ⟨hR, hR, fun _ => ⟨by omega, fun q2 hq2 => ⟨by omega, fun q3 hq3' => ⟨by omega, fun q4 hq4' => ⟨by omega, fun q5 hq5' => ?_⟩⟩⟩⟩, fun z => absurd rfl z⟩
  have n32 : q3 ≠ q2 := fun z => by rw [z, cst_self] at hq3'; cases hq3'
  have hq3 : (C1 q3).1 = 0 := by rw [cst_ne n32] at hq3'; exact hq3'
  have n43 : q4 ≠ q3 := fun z => by rw [z, cst_self] at hq4'; cases hq4'
  have n42 : q4 ≠ q2 := fun z => by rw [z, cst_ne (Ne.symm n32), cst_self] at hq4'; cases hq4'
  have hq4 : (C1 q4).1 = 0 := by rw [cst_ne n43, cst_ne n42] at hq4'; exact hq4'
  have n54 : q5 ≠ q4 := fun z => by rw [z, cst_self] at hq5'; cases hq5'
  have n53 : q5 ≠ q3 := fun z => by rw [z, cst_ne (Ne.symm n43), cst_self] at hq5'; cases hq5'
  have n52 : q5 ≠ q2 := fun z => by rw [z, cst_ne (Ne.symm n42), cst_ne (Ne.symm n32), cst_self] at hq5'; cases hq5'
  have hq5 : (C1 q5).1 = 0 := by rw [cst_ne n54, cst_ne n53, cst_ne n52] at hq5'; exact hq5'
  obtain ⟨f, hr⟩ := hr
  have r2 := ne_new hr hq2
  have r3 := ne_new hr hq3
  have r4 := ne_new hr hq4
  have r5 := ne_new hr hq5
  have a2 := ne_new ha hq2
  have a3 := ne_new ha hq3
  have a4 := ne_new ha hq4
  have a5 := ne_new ha hq5
  have b2 := ne_new hb hq2
  have b3 := ne_new hb hq3
  have b4 := ne_new hb hq4
  have b5 := ne_new hb hq5
  have z2 := hf.free hq2
  have z3 := hf.free hq3
  have z4 := hf.free hq4
  have z5 := hf.free hq5
  have fz : LF [r, a, b] C0 (cst (cst (cst (cst C1 q2 (1, 24, fun _ => 0)) q3 (1, 24, fun _ => 0)) q4 (1, 24, fun _ => 0)) q5 (1, 2000, fun _ => 0)) := (((hf.set z2).set z3).set z4).set z5
  have w : ∀ {x : Nat} {y : LCel}, C1 x = y → q2 ≠ x → q3 ≠ x → q4 ≠ x → q5 ≠ x → cst (cst (cst (cst C1 q2 (1, 24, fun _ => 0)) q3 (1, 24, fun _ => 0)) q4 (1, 24, fun _ => 0)) q5 (1, 2000, fun _ => 0) x = y := fun {x y} h1 h2 h3 h4 h5 => by
    rw [cst_ne (Ne.symm h5), cst_ne (Ne.symm h4), cst_ne (Ne.symm h3), cst_ne (Ne.symm h2)]; exact h1
  have wr := w hr r2 r3 r4 r5
  have wa := w ha a2 a3 a4 a5
  have wb := w hb b2 b3 b4 b5
  have w2 : cst (cst (cst (cst C1 q2 (1, 24, fun _ => 0)) q3 (1, 24, fun _ => 0)) q4 (1, 24, fun _ => 0)) q5 (1, 2000, fun _ => 0) q2 = (1, 24, fun _ => 0) := by rw [cst_ne (Ne.symm n52), cst_ne (Ne.symm n42), cst_ne (Ne.symm n32), cst_self]
  have w3 : cst (cst (cst (cst C1 q2 (1, 24, fun _ => 0)) q3 (1, 24, fun _ => 0)) q4 (1, 24, fun _ => 0)) q5 (1, 2000, fun _ => 0) q3 = (1, 24, fun _ => 0) := by rw [cst_ne (Ne.symm n53), cst_ne (Ne.symm n43), cst_self]
  have w4 : cst (cst (cst (cst C1 q2 (1, 24, fun _ => 0)) q3 (1, 24, fun _ => 0)) q4 (1, 24, fun _ => 0)) q5 (1, 2000, fun _ => 0) q4 = (1, 24, fun _ => 0) := by rw [cst_ne (Ne.symm n54), cst_self]
  have w5 : cst (cst (cst (cst C1 q2 (1, 24, fun _ => 0)) q3 (1, 24, fun _ => 0)) q4 (1, 24, fun _ => 0)) q5 (1, 2000, fun _ => 0) q5 = (1, 2000, fun _ => 0) := cst_self
  generalize cst (cst (cst (cst C1 q2 (1, 24, fun _ => 0)) q3 (1, 24, fun _ => 0)) q4 (1, 24, fun _ => 0)) q5 (1, 2000, fun _ => 0) = C2 at *
  simp only [wb, hfb]
  refine ⟨trivial, ⟨by omega, by omega⟩, ⟨by omega, by omega⟩, ⟨by omega, by omega⟩, ⟨by omega, by omega⟩, ⟨by omega, by omega⟩, by omega, ?_⟩
  obtain ⟨T, hT⟩ := PT_ex (many := fb 1) (by_ := fb 2) (space := fb 3) (wait := fb 4) hV hl.1.1
  refine s_plays (d := d + 129) wa w2 w3 w4 w5 ⟨⟨Ne.symm a2, Ne.symm a3, Ne.symm a4, Ne.symm a5⟩, ⟨Ne.symm n32, Ne.symm n42, Ne.symm n52⟩, ⟨Ne.symm n43, Ne.symm n53⟩, Ne.symm n54⟩ hV hfa ⟨by omega, by omega⟩ ⟨by omega, by omega⟩ ⟨by omega, by omega⟩ ⟨by omega, by omega⟩ hT _ ?_
  rintro v6 M6 C6 ⟨rfl, hv6, hf6, E, F, G, N, e2, e3, e4, e5, hP1, hP2, hP3⟩
  have mem4 : ∀ x, q2 ≠ x → q3 ≠ x → q4 ≠ x → q5 ≠ x → x ∉ [q2, q3, q4, q5] := fun x z1 z2 z3 z4 hx => by
    rcases List.mem_cons.mp hx with w | hx
    · exact z1 w.symm
    rcases List.mem_cons.mp hx with w | hx
    · exact z2 w.symm
    rcases List.mem_cons.mp hx with w | hx
    · exact z3 w.symm
    · exact z4 (List.mem_singleton.mp hx).symm
  have hf9 : LF [r, a, b] C0 C6 := fz.trN hf6 fun y hy => by
    rcases List.mem_cons.mp hy with w | hy
    · rw [w]; exact z2
    rcases List.mem_cons.mp hy with w | hy
    · rw [w]; exact z3
    rcases List.mem_cons.mp hy with w | hy
    · rw [w]; exact z4
    · rw [List.mem_singleton.mp hy]; exact z5
  have hs : RSq C0 r a b q2 q3 q4 q5 fa fb E F G N C6 := ⟨⟨f, hf6.at' (k := 0) (mem4 r r2 r3 r4 r5) wr⟩, hf6.at' (k := 0) (mem4 a a2 a3 a4 a5) wa, hf6.at' (k := 0) (mem4 b b2 b3 b4 b5) wb, e2, e3, e4, e5, hf9⟩
  have hN : ∀ s, N s = if s < T then nmF j.1 j.2 (fb 1) (fb 2) (fb 3) (fb 4) s else 0 := fun s => by
    by_cases z : s < T
    · rw [if_pos z]; exact hP2 s z
    · rw [if_neg z]; exact hP3 s (by omega)
  refine ⟨by omega, ?_⟩
  refine d_sum0 q1 _ ?_
  rintro v7 M7 ⟨q7, U, hU, hv7⟩
  obtain rfl : T = U := hT.uniq hU
  have e67 : v7 = v6 := hv7.trans hv6.symm
  have rg := pSum_r hV hl.1.1 hT
  rw [← hv6] at rg
  have go : ∀ M8 : Mem, IQ j (fb 1, fb 2, fb 3, fb 4) c n e g h t M8 → L_W_isPlay_244 (d + 130) Q M8 C6 (kc + 3 + 1 + 1 + 1 + 39 + 3 + 0) r a b o4 (some (.inl l.2.1)) q2 q3 q4 q5 v6 0 0 0 0 none none none none := by
    intro M8 q8
    refine ip_244 (l := (fb 1, fb 2, fb 3, fb 4)) (E := E) (F := F) (G := G) (N := N) (T := T) hV hfa hfb hl hT hP1 (fun M9 C9 kc9 hk9 q9 hs9 o11 o12 o14 => ?_) j.1 0 M8 C6 _ 0 0 0 none (by omega) (by omega) q8 hs rfl rfl rfl
    refine ip_397 (l := (fb 1, fb 2, fb 3, fb 4)) (E := E) (F := F) (G := G) (N := N) (T := T) hV hfa hfb hl hT hN hv6 (by omega) q9 hs9 (fun M10 kc10 i17 hk10 q10 h17 o10 o15 o16 o19 o20 => ?_) 2000 0 0 _ _ _ _ (by omega) rfl
    refine ip_437 (l := (fb 1, fb 2, fb 3, fb 4)) (E := E) (F := F) (G := G) (N := N) (T := T) hV hl hT hN ⟨⟨hab.1, hab.2.1⟩, r2, r3, r4, r5⟩ h17 (fun M11 C11 kc11 v1 T5 hk11 q11 hs11 h5 hv1 o0 o1 o9 o17 o20 => ?_) 25 0 M10 C9 kc10 _ _ (by omega) (by omega) q10 hs9
    obtain ⟨g1, g2, g3, g4, g5, g6, g7, g8⟩ := hs11
    refine ip_462 (j := j) (T5 := T5) hV hfa hfb ⟨⟨Ne.symm a2, Ne.symm a3, Ne.symm a4⟩, ⟨Ne.symm n32, Ne.symm n42⟩, Ne.symm n43, ⟨Ne.symm b2, Ne.symm b3, Ne.symm b4⟩, Ne.symm r2, Ne.symm r3, Ne.symm r4⟩ ⟨z2, z3, z4⟩ h5 hv1 (fun C12 k1 k2 k3 k4 => ?_) 6 0 C11 kc11 E F G _ (by omega) (by omega) g1 g2 g3 g4 g5 g6 g8
    exact hQ M11 C12 j _ h q11 k1 ⟨k2, ⟨fa, k3, hfa⟩, fb, k4, hfb, rfl⟩
  have hb6 := hs.2.2.1
  show R32 v7 ∧ _
  simp only [hb6, hfb]
  refine ⟨⟨by omega, by omega⟩, ⟨by omega, by omega⟩, fun z => absurd e67 z, fun _ => ⟨trivial, ⟨by omega, by omega⟩, ⟨by omega, by omega⟩, fun z => go M7 q7, fun z => ⟨by omega, q7.mac5 (by omega) (fun U hU => ?_) go⟩⟩⟩
  rw [← hT.uniq hU]
  exact hv6
theorem ip_124 (hab : a ≠ r ∧ b ≠ r ∧ a ≠ b) (hex : (C0 r).1 ≠ 0 ∧ (C0 a).1 ≠ 0 ∧ (C0 b).1 ≠ 0)
    (hQ : ∀ (M : Mem) (C : LMem) (j : StJ) (l : StL) (h : StH), IQ j l c n e g h t M → LF [r, a, b] C0 C → JCs r a b j l C → Q 1 M C)
    {M : Mem} {C : LMem} {kc : Nat} {o4 o5 o6 : Option PV} (hkc : kc ≤ 30) (q : IQ j l c n e g h t M) (hf : LF [r, a, b] C0 C) (hj : JCs r a b j l C) : L_W_isPlay_124 (d + 130) Q M C kc r a b o4 o5 o6 none none none none none none none none none none none none none none := by
  obtain ⟨⟨f, hr⟩, ⟨fa, ha, hfa⟩, fb, hb, hb0, hb2⟩ := hj
  have hlo := q.ln.1.2.2.2.2.1
  unfold lineOk at hlo
  have hR : R32 l.2.1 := ⟨by omega, by omega⟩
  have m1 : ∀ z, z ∈ [r] → z ∈ [r, a, b] := fun z hz => by rw [List.mem_singleton.mp hz]; exact List.mem_cons_self
  have mb : b ∈ [r, a, b] := by simp
  have fin : ∀ (M : Mem) (C : LMem) (kc : Nat) (fb : Nat → Int) (f : Nat → Int), kc ≤ 30 → IQ j l c n e g h t M → C r = (1, 1, f) → C a = (1, 120, fa) → C b = (1, 10, fb) → LF [r, a, b] C0 C → fb 0 = (j.1 : Int) → lineOk (fb 1) (fb 2) (fb 3) (fb 4) → L_W_isPlay_170 (d + 130) Q M C kc r a b (clr o4) l.2.1 o6 none none none none none none none none none none none none none none :=
    fun M C kc fb f hkc q hr ha hb hf hb0 hl => ip_170 hab hex hQ hkc q ⟨f, hr⟩ ha hb hfa hb0 hf hl hR
  have go156 : ∀ (M : Mem) (C : LMem) (kc : Nat) (fb : Nat → Int) (f : Nat → Int), kc ≤ 30 → IQ j l c n e g h t M → C r = (1, 1, f) → C a = (1, 120, fa) → C b = (1, 10, fb) → LF [r, a, b] C0 C → fb 0 = (j.1 : Int) → (1 ≤ fb 1 ∧ fb 1 ≤ 4) → (0 ≤ fb 2 ∧ fb 2 ≤ 5) → (0 ≤ fb 3 ∧ fb 3 ≤ 24) → L_W_isPlay_156 (d + 130) Q M C kc r a b (clr o4) l.2.1 o6 none none none none none none none none none none none none none none := by
    intro M C kc fb f hkc q hr ha hb hf hb0 hb1 hb2 hb3
    refine b_W_isPlay_156 ⟨by omega, ?_⟩
    refine s_nextF hr _ ?_
    rintro v1 M1 C1 ⟨rfl, hv1, ⟨f1, hr1⟩, hf1⟩
    have ha1 := hf1.at' (k := 0) (nin1 hab.1) ha
    have hb1' := hf1.at' (k := 0) (nin1 hab.2.1) hb
    refine ⟨⟨by omega, by omega⟩, ⟨by omega, by omega⟩, fun _ => ⟨by omega, ?_⟩, fun _ => ?_⟩
    · refine s_fromF hr1 (by omega) (by omega) _ ?_
      rintro v2 M2 C2 ⟨rfl, hv2, ⟨f2, hr2⟩, hf2⟩
      have ha2 := hf2.at' (k := 0) (nin1 hab.1) ha1
      have hb2' := hf2.at' (k := 0) (nin1 hab.2.1) hb1'
      simp only [hb2', cup_of hb2']
      refine ⟨trivial, ⟨by omega, by omega⟩, ?_⟩
      refine fin M2 _ _ (sr fb 4 v2) f2 (by omega) q (by rw [cst_ne (Ne.symm hab.2.1)]; exact hr2) (by rw [cst_ne hab.2.2]; exact ha2) cst_self (((hf.tr (hf1.mono m1)).tr (hf2.mono m1)).own mb hb2') ?_ ?_
      · rw [sr_ne (by decide)]; exact hb0
      · rw [sr_ne (by decide), sr_ne (by decide), sr_ne (by decide), sr_same]; exact ⟨⟨by omega, by omega⟩, ⟨by omega, by omega⟩, ⟨by omega, by omega⟩, by omega, by omega⟩
    · simp only [hb1', cup_of hb1']
      refine ⟨trivial, ⟨by omega, by omega⟩, ?_⟩
      refine fin M1 _ _ (sr fb 4 999) f1 (by omega) q (by rw [cst_ne (Ne.symm hab.2.1)]; exact hr1) (by rw [cst_ne hab.2.2]; exact ha1) cst_self ((hf.tr (hf1.mono m1)).own mb hb1') ?_ ?_
      · rw [sr_ne (by decide)]; exact hb0
      · rw [sr_ne (by decide), sr_ne (by decide), sr_ne (by decide), sr_same]; exact ⟨⟨by omega, by omega⟩, ⟨by omega, by omega⟩, ⟨by omega, by omega⟩, by omega, by omega⟩
  refine b_W_isPlay_124 ?_
  simp only [hb, hb2]
  refine ⟨trivial, ⟨by omega, by omega⟩, by omega, ?_⟩
  refine s_fromF hr (by omega) (by omega) _ ?_
  rintro v1 M1 C1 ⟨rfl, hv1, ⟨f1, hr1⟩, hf1⟩
  have ha1 := hf1.at' (k := 0) (nin1 hab.1) ha
  have hb1' := hf1.at' (k := 0) (nin1 hab.2.1) hb
  simp only [hb1', cup_of hb1']
  refine ⟨trivial, ⟨by omega, by omega⟩, by omega, ?_⟩
  have hr1' : cst C1 b (1, 10, sr fb 1 v1) r = (1, 1, f1) := by rw [cst_ne (Ne.symm hab.2.1)]; exact hr1
  have ha1' : cst C1 b (1, 10, sr fb 1 v1) a = (1, 120, fa) := by rw [cst_ne hab.2.2]; exact ha1
  have f1' : LF [r, a, b] C0 (cst C1 b (1, 10, sr fb 1 v1)) := (hf.tr (hf1.mono m1)).own mb hb1'
  refine s_nextF hr1' _ ?_
  rintro v2 M2 C2 ⟨rfl, hv2, ⟨f2, hr2⟩, hf2⟩
  have ha2 := hf2.at' (k := 0) (nin1 hab.1) ha1'
  have hb2' : C2 b = (1, 10, sr fb 1 v1) := hf2.at' (k := 0) (nin1 hab.2.1) cst_self
  simp only [hb2', cup_of hb2']
  refine ⟨⟨by omega, by omega⟩, trivial, ⟨by omega, by omega⟩, by omega, ?_⟩
  have hr2' : cst C2 b (1, 10, sr (sr fb 1 v1) 2 (v2 % 6)) r = (1, 1, f2) := by rw [cst_ne (Ne.symm hab.2.1)]; exact hr2
  have ha2' : cst C2 b (1, 10, sr (sr fb 1 v1) 2 (v2 % 6)) a = (1, 120, fa) := by rw [cst_ne hab.2.2]; exact ha2
  have f2' : LF [r, a, b] C0 (cst C2 b (1, 10, sr (sr fb 1 v1) 2 (v2 % 6))) := (f1'.tr (hf2.mono m1)).own mb hb2'
  refine s_nextF hr2' _ ?_
  rintro v3 M3 C3 ⟨rfl, hv3, ⟨f3, hr3⟩, hf3⟩
  have ha3 := hf3.at' (k := 0) (nin1 hab.1) ha2'
  have hb3' : C3 b = (1, 10, sr (sr fb 1 v1) 2 (v2 % 6)) := hf3.at' (k := 0) (nin1 hab.2.1) cst_self
  have f3' : LF [r, a, b] C0 C3 := f2'.tr (hf3.mono m1)
  have x0 : ∀ y, sr (sr (sr fb 1 v1) 2 (v2 % 6)) 3 y 0 = (j.1 : Int) := fun y => by rw [sr_ne (by decide), sr_ne (by decide), sr_ne (by decide)]; exact hb0
  have x1 : ∀ y, sr (sr (sr fb 1 v1) 2 (v2 % 6)) 3 y 1 = v1 := fun y => by rw [sr_ne (by decide), sr_ne (by decide), sr_same]
  have x2 : ∀ y, sr (sr (sr fb 1 v1) 2 (v2 % 6)) 3 y 2 = v2 % 6 := fun y => by rw [sr_ne (by decide), sr_same]
  have x3 : ∀ y, sr (sr (sr fb 1 v1) 2 (v2 % 6)) 3 y 3 = y := fun y => sr_same
  refine ⟨⟨by omega, by omega⟩, ⟨by omega, by omega⟩, fun _ => ⟨by omega, ?_⟩, fun _ => ?_⟩
  · refine s_nextF hr3 _ ?_
    rintro v4 M4 C4 ⟨rfl, hv4, ⟨f4, hr4⟩, hf4⟩
    have ha4 := hf4.at' (k := 0) (nin1 hab.1) ha3
    have hb4' := hf4.at' (k := 0) (nin1 hab.2.1) hb3'
    simp only [hb4', cup_of hb4']
    refine ⟨⟨by omega, by omega⟩, trivial, ⟨by omega, by omega⟩, ?_⟩
    exact go156 M4 _ _ (sr (sr (sr fb 1 v1) 2 (v2 % 6)) 3 (v4 % 6)) f4 (by omega) q (by rw [cst_ne (Ne.symm hab.2.1)]; exact hr4) (by rw [cst_ne hab.2.2]; exact ha4) cst_self ((f3'.tr (hf4.mono m1)).own mb hb4') (x0 _) (by rw [x1]; exact hv1) (by rw [x2]; omega) (by rw [x3]; omega)
  · simp only [hb3', cup_of hb3']
    refine ⟨trivial, ⟨by omega, by omega⟩, ?_⟩
    exact go156 M3 _ _ (sr (sr (sr fb 1 v1) 2 (v2 % 6)) 3 24) f3 (by omega) q (by rw [cst_ne (Ne.symm hab.2.1)]; exact hr3) (by rw [cst_ne hab.2.2]; exact ha3) cst_self (f3'.own mb hb3') (x0 _) (by rw [x1]; exact hv1) (by rw [x2]; omega) (by rw [x3]; omega)
end IP4
theorem s_isPlay {d r a b : Nat} {M : Mem} {C : LMem} {j : StJ} {l : StL} {c : StC} {n : StN} {e : StE} {g : StG} {h : StH} {t : StT} (q : IQ j l c n e g h t M) (hj : JCs r a b j l C) (hab : a ≠ r ∧ b ≠ r ∧ a ≠ b) : LPo (d + 131) cW_isPlay [oH, .inr (.inr (.inl (r + 1))), .inr (.inr (.inl (a + 1))), .inr (.inr (.inl (b + 1)))] M C (fun v m c' => v = 1 ∧ LF [r, a, b] C c' ∧ ∃ j' l' h', IQ j' l' c n e g h' t m ∧ JCs r a b j' l' c') := fun Q hQ => by
  have hQ' : ∀ (M' : Mem) (C' : LMem) (j : StJ) (l : StL) (h : StH), IQ j l c n e g h t M' → LF [r, a, b] C C' → JCs r a b j l C' → Q 1 M' C' := fun M' C' j l h h1 h2 h3 => hQ 1 M' C' ⟨rfl, h2, j, l, h, h1, h3⟩
  obtain ⟨f, hr⟩ := id hj.1
  have hex : (C r).1 ≠ 0 ∧ (C a).1 ≠ 0 ∧ (C b).1 ≠ 0 := by
    obtain ⟨⟨f, h1⟩, ⟨fa, h2, -⟩, fb, h3, -⟩ := hj
    rw [h1, h2, h3]
    exact ⟨Nat.succ_ne_zero 0, Nat.succ_ne_zero 0, Nat.succ_ne_zero 0⟩
  refine e_W_isPlay (b_W_isPlay_0 ⟨by omega, ?_⟩)
  refine s_fromF hr (by omega) (by omega) _ ?_
  rintro v1 M1 C1 ⟨rfl, hv1, -, hf1⟩
  have m1 : ∀ z, z ∈ [r] → z ∈ [r, a, b] := fun z hz => by rw [List.mem_singleton.mp hz]; exact List.mem_cons_self
  exact ip_7 (C0 := C) hab hv1 (fun M C kc j l h o4 o5 o6 hk q2 hf2 hj2 => ip_124 hab hex hQ' hk q2 hf2 hj2) hQ' 5 0 M1 C1 _ j l h none (by omega) (by omega) (by omega) q (hf1.mono m1) (hj.off hf1 hab.1 hab.2.1)
