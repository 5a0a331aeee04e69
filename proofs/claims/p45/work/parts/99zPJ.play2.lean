/-! isPlay, its second half: the line is played twice. -/
def RSq (C0 : LMem) (r a b q2 q3 q4 q5 : Nat) (fa fb E F G N : Nat → Int) (C : LMem) : Prop := (∃ f, C r = (1, 1, f)) ∧ C a = (1, 120, fa) ∧ C b = (1, 10, fb) ∧ C q2 = (1, 24, E) ∧ C q3 = (1, 24, F) ∧ C q4 = (1, 24, G) ∧ C q5 = (1, 2000, N) ∧ LF [r, a, b] C0 C
theorem RSq.off {C0 : LMem} {r a b q2 q3 q4 q5 : Nat} {fa fb E F G N : Nat → Int} {C C' : LMem} (h : RSq C0 r a b q2 q3 q4 q5 fa fb E F G N C) (hf : LF [] C C') : RSq C0 r a b q2 q3 q4 q5 fa fb E F G N C' := by
  obtain ⟨⟨f, h1⟩, h2, h3, h4, h5, h6, h7, h8⟩ := h
  have z : ∀ x : Nat, x ∉ ([] : List Nat) := fun x hx => by cases hx
  exact ⟨⟨f, hf.at' (k := 0) (z _) h1⟩, hf.at' (k := 0) (z _) h2, hf.at' (k := 0) (z _) h3, hf.at' (k := 0) (z _) h4, hf.at' (k := 0) (z _) h5, hf.at' (k := 0) (z _) h6, hf.at' (k := 0) (z _) h7, h8.tr (hf.nil)⟩
theorem RSq.rnd {C0 : LMem} {r a b q2 q3 q4 q5 : Nat} {fa fb E F G N : Nat → Int} {C C' : LMem} (h : RSq C0 r a b q2 q3 q4 q5 fa fb E F G N C) (hf : LF [r] C C') (hr : ∃ f, C' r = (1, 1, f)) (ha : a ≠ r) (hb : b ≠ r) (h22 : q2 ≠ r) (h33 : q3 ≠ r) (h44 : q4 ≠ r) (h55 : q5 ≠ r) : RSq C0 r a b q2 q3 q4 q5 fa fb E F G N C' := by
  obtain ⟨⟨f, h1⟩, h2, h3, h4, h5, h6, h7, h8⟩ := h
  exact ⟨hr, hf.at' (k := 0) (nin1 ha) h2, hf.at' (k := 0) (nin1 hb) h3, hf.at' (k := 0) (nin1 h22) h4, hf.at' (k := 0) (nin1 h33) h5, hf.at' (k := 0) (nin1 h44) h6, hf.at' (k := 0) (nin1 h55) h7, h8.tr (hf.mono fun z hz => by rw [List.mem_singleton.mp hz]; exact List.mem_cons_self)⟩
theorem sumN_tail {f g : Nat → Int} {T : Nat} (h1 : ∀ s, s < T → f s = g s) (h2 : ∀ s, T ≤ s → f s = 0) : ∀ m, sumN f (T + m) = sumN g T
  | 0 => sumN_congr T h1
  | m + 1 => by
    show sumN f (T + m) + f (T + m) = _
    rw [sumN_tail h1 h2 m, h2 _ (by omega)]
    omega
theorem IQ.mac5 {j : StJ} {l : StL} {c : StC} {n : StN} {e : StE} {g : StG} {h : StH} {t : StT} {M : Mem} {x : Int} {F : Mem → Prop} (q : IQ j l c n e g h t M) (h0 : j.1 ≠ 0) (hx : ∀ T, PT j.1 j.2 l.1 l.2.1 l.2.2.1 l.2.2.2 T → x = pSum j.1 j.2 l.1 l.2.1 l.2.2.1 l.2.2.2 T) (hF : ∀ M1, IQ j l c n e g h t M1 → F M1) : macS 5 M x (j.1 : Int) F := by
  obtain ⟨hV, hn, hJ, hH, hh⟩ := q.jb
  refine ⟨j.1, l.1, l.2.1, l.2.2.1, l.2.2.2, ?_⟩
  rw [hJ]
  exact ⟨hV, hn, q.ln.1, h0, rfl, hx, Or.inl rfl, fun M1 h1 => hF M1 (q.lf h1)⟩
theorem IQ.mac6 {j : StJ} {l : StL} {c : StC} {n : StN} {e : StE} {g : StG} {h : StH} {t : StT} {M : Mem} {x : Int} {F : Mem → Prop} (q : IQ j l c n e g h t M) (h0 : j.1 ≠ 0) (hx : ∀ T, PT j.1 j.2 l.1 l.2.1 l.2.2.1 l.2.2.2 T → x = cntZ (fun k => (sAt j.1 j.2 l.1 l.2.1 l.2.2.1 l.2.2.2 T).2.2.2 0 k) j.1) (hF : ∀ M1, IQ j l c n e g h t M1 → F M1) : macS 6 M x (j.1 : Int) F := by
  obtain ⟨hV, hn, hJ, hH, hh⟩ := q.jb
  refine ⟨j.1, l.1, l.2.1, l.2.2.1, l.2.2.2, ?_⟩
  rw [hJ]
  exact ⟨hV, hn, q.ln.1, h0, rfl, hx, Or.inr rfl, fun M1 h1 => hF M1 (q.lf h1)⟩
section IP2
variable {d : Nat} {Q : LQ} {C0 : LMem} {j : StJ} {l : StL} {c : StC} {n : StN} {e : StE} {g : StG} {h : StH} {t : StT} {r a b q2 q3 q4 q5 : Nat} {fa fb : Nat → Int} {o0 o1 o4 o5 o9 o10 o11 o12 o13 o14 o15 o16 o17 : Option PV}
theorem ip_462 {M : Mem} {x5 : Int} (hV : VJ j.1 j.2) (hfa : ∀ i, i < 4 * j.1 → fa i = j.2 i) (hfb : fb 0 = (j.1 : Int)) (hne : (a ≠ q2 ∧ a ≠ q3 ∧ a ≠ q4) ∧ (q2 ≠ q3 ∧ q2 ≠ q4) ∧ q3 ≠ q4 ∧ (b ≠ q2 ∧ b ≠ q3 ∧ b ≠ q4) ∧ r ≠ q2 ∧ r ≠ q3 ∧ r ≠ q4) (hfr : (C0 q2).1 = 0 ∧ (C0 q3).1 = 0 ∧ (C0 q4).1 = 0)
    {T5 : Nat} (hT5 : PT j.1 j.2 1 5 24 999 T5) (hx5 : x5 = pSum j.1 j.2 1 5 24 999 T5)
    (hQ : ∀ C, LF [r, a, b] C0 C → (∃ f, C r = (1, 1, f)) → C a = (1, 120, fa) → C b = (1, 10, fb) → Q 1 M C) :
    ∀ (m k : Nat) (C : LMem) (kc : Nat) (E F G : Nat → Int) (o20 : Option PV), k + m = 6 → kc + 42 * m ≤ 2000 → (∃ f, C r = (1, 1, f)) → C a = (1, 120, fa) → C b = (1, 10, fb) → C q2 = (1, 24, E) → C q3 = (1, 24, F) → C q4 = (1, 24, G) → LF [r, a, b] C0 C → L_W_isPlay_462 (d + 130) Q M C kc o0 o1 a b o4 o5 q2 q3 q4 o9 o10 o11 o12 o13 o14 o15 o16 o17 x5 (k : Int) o20 := by
  obtain ⟨⟨n1, n2, n3⟩, ⟨n4, n5⟩, n6, ⟨n7, n8, n9⟩, n10, n11, n12⟩ := hne
  intro m
  induction m with
  | zero =>
    intro k C kc E F G o20 hk hkc hr ha hb h2 h3 h4 hf
    exact b_W_isPlay_462 ⟨⟨by omega, by omega⟩, fun _ => hQ C hf hr ha hb, fun z => absurd (by omega) z⟩
  | succ m ih =>
    intro k C kc E F G o20 hk hkc hr ha hb h2 h3 h4 hf
    refine b_W_isPlay_462 ⟨⟨by omega, by omega⟩, fun z => absurd z (by omega), fun _ => ?_⟩
    simp only [hb, hfb]
    refine ⟨trivial, ⟨by omega, by omega⟩, by omega, fun q1 hq1 => ⟨by omega, ?_⟩⟩
    obtain ⟨f, hr⟩ := hr
    have p2 := ne_new h2 hq1
    have p3 := ne_new h3 hq1
    have p4 := ne_new h4 hq1
    have pa := ne_new ha hq1
    have pb := ne_new hb hq1
    have pr := ne_new hr hq1
    obtain ⟨T, hT⟩ := PT_ex (many := 1) (by_ := (k : Int)) (space := 24) (wait := 5000) hV (by decide)
    refine s_plays (d := d + 129) (C := cst C q1 (1, 2000, fun _ => 0)) (by rw [cst_ne (Ne.symm pa)]; exact ha) (by rw [cst_ne (Ne.symm p2)]; exact h2) (by rw [cst_ne (Ne.symm p3)]; exact h3) (by rw [cst_ne (Ne.symm p4)]; exact h4) cst_self ⟨⟨n1, n2, n3, Ne.symm pa⟩, ⟨n4, n5, Ne.symm p2⟩, ⟨n6, Ne.symm p3⟩, Ne.symm p4⟩ hV hfa ⟨by omega, by omega⟩ ⟨by decide, by decide⟩ ⟨by decide, by decide⟩ ⟨by decide, by decide⟩ hT _ ?_
    rintro v M2 C2 ⟨rfl, hv, hf2, E2, F2, G2, N2, e2, e3, e4, e5, -⟩
    have hTw := hT.wait hV (by decide) (by decide) (by decide : (961 : Int) ≤ 999)
    have hvw : v = pSum j.1 j.2 1 (k : Int) 24 999 T := by rw [hv]; exact pSum_wait hV (by decide) (by decide) (by decide)
    have hr1 := pSum_r hV (by decide) hTw
    have hr5 := pSum_r hV (by decide) hT5
    have hle := e2_all hV k (by omega) T5 T hT5 hTw
    have mem4 : ∀ x, x ≠ q2 → x ≠ q3 → x ≠ q4 → x ≠ q1 → x ∉ [q2, q3, q4, q1] := fun x z1 z2 z3 z4 hx => by
      rcases List.mem_cons.mp hx with w | hx
      · exact z1 w
      rcases List.mem_cons.mp hx with w | hx
      · exact z2 w
      rcases List.mem_cons.mp hx with w | hx
      · exact z3 w
      · exact z4 (List.mem_singleton.mp hx)
    have f0 : (C0 q1).1 = 0 := hf.free hq1
    have hf9 : LF [r, a, b] C0 C2 := (hf.new hq1).trN hf2 fun y hy => by
      rcases List.mem_cons.mp hy with w | hy
      · rw [w]; exact hfr.1
      rcases List.mem_cons.mp hy with w | hy
      · rw [w]; exact hfr.2.1
      rcases List.mem_cons.mp hy with w | hy
      · rw [w]; exact hfr.2.2
      · rw [List.mem_singleton.mp hy]; exact f0
    have ga := hf2.at' (k := 0) (mem4 a n1 n2 n3 (Ne.symm pa)) (by rw [cst_ne (Ne.symm pa)]; exact ha)
    have gb := hf2.at' (k := 0) (mem4 b n7 n8 n9 (Ne.symm pb)) (by rw [cst_ne (Ne.symm pb)]; exact hb)
    have gr := hf2.at' (k := 0) (mem4 r n10 n11 n12 (Ne.symm pr)) (by rw [cst_ne (Ne.symm pr)]; exact hr)
    have key := fun o => ih (k + 1) C2 (kc + 39 + 3) E2 F2 G2 o (by omega) (by omega) ⟨f, gr⟩ ga gb e2 e3 e4 hf9
    refine ⟨⟨by omega, by omega⟩, ⟨by omega, by omega⟩, fun z => absurd z (by omega), fun _ => ⟨fun _ => key _, fun z => ⟨fun _ => key _, fun w => ?_⟩⟩⟩
    exfalso
    have k5 : k = 5 := by omega
    subst k5
    have hTU : T5 = T := hT5.uniq hTw
    rw [hTU] at hx5
    exact w (hvw.trans hx5.symm)
theorem ip_437 {E F G N : Nat → Int} {T : Nat} (hV : VJ j.1 j.2) (hl : lineOk l.1 l.2.1 l.2.2.1 l.2.2.2) (hT : PT j.1 j.2 l.1 l.2.1 l.2.2.1 l.2.2.2 T) (hN : ∀ s, N s = if s < T then nmF j.1 j.2 l.1 l.2.1 l.2.2.1 l.2.2.2 s else 0) (hne : (a ≠ r ∧ b ≠ r) ∧ q2 ≠ r ∧ q3 ≠ r ∧ q4 ≠ r ∧ q5 ≠ r) {i17 : Int} (h17 : 0 ≤ i17 ∧ i17 ≤ 600)
    (hN2 : ∀ (M : Mem) (C : LMem) (kc : Nat) (v1 : Int) (T5 : Nat), kc ≤ 1000 → IQ j l c n e g h t M → RSq C0 r a b q2 q3 q4 q5 fa fb E F G N C → PT j.1 j.2 1 5 24 999 T5 → v1 = pSum j.1 j.2 1 5 24 999 T5 → ∀ o0 o1 o9 o17 o20, L_W_isPlay_462 (d + 130) Q M C kc o0 o1 a b o4 o5 q2 q3 q4 o9 o10 o11 o12 o13 o14 o15 o16 o17 v1 0 o20) :
    ∀ (m k : Nat) (M : Mem) (C : LMem) (kc : Nat) (o19 o20 : Option PV), k + m = 25 → kc ≤ 1000 → IQ j l c n e g h t M → RSq C0 r a b q2 q3 q4 q5 fa fb E F G N C → L_W_isPlay_437 (d + 130) Q M C kc r a b o4 o5 q2 q3 q4 q5 o10 o11 o12 o13 o14 o15 o16 i17 (k : Int) o19 o20 := by
  obtain ⟨⟨n1, n2⟩, n3, n4, n5, n6⟩ := hne
  have hTl := hT.le hV hl.1.1
  intro m
  induction m with
  | zero =>
    intro k M C kc o19 o20 hk hkc q hs
    refine b_W_isPlay_437 ⟨⟨by omega, by omega⟩, fun _ => ⟨by omega, ?_⟩, fun z => absurd (by omega) z⟩
    refine d_sum1 q _ ?_
    rintro v m ⟨hq, T5, h5, hv⟩
    exact hN2 m C _ v T5 (by omega) hq hs h5 hv _ _ _ _ _
  | succ m ih =>
    intro k M C kc o19 o20 hk hkc q hs
    refine b_W_isPlay_437 ⟨⟨by omega, by omega⟩, fun z => absurd z (by omega), fun _ => ⟨by omega, ?_⟩⟩
    obtain ⟨f, hr⟩ := hs.1
    refine s_fromF hr (by omega) (by omega) _ ?_
    rintro v1 M1 C1 ⟨rfl, hv1, hr1, hf1⟩
    have hs1 := hs.rnd hf1 hr1 n1 n2 n3 n4 n5 n6
    refine ⟨by omega, ?_⟩
    refine d_number q ⟨by omega, by omega⟩ _ ?_
    rintro v2 M2 ⟨hq2, U, hU, hv2⟩
    obtain rfl : T = U := hT.uniq hU
    obtain ⟨-, -, -, -, -, -, h7, -⟩ := hs1
    have e9 : v2 = N v1.toNat := by
      rw [hv2, hN]
      unfold numVal nmF
      by_cases z : v1.toNat < T
      · rw [if_pos z, if_pos ⟨by omega, by omega⟩]
      · rw [if_neg z, if_neg (by omega)]
    have rg : 0 ≤ N v1.toNat ∧ N v1.toNat ≤ 24 := by
      rw [hN]
      by_cases z : v1.toNat < T
      · rw [if_pos z]; exact nmF_r hV hl.1.1 _
      · rw [if_neg z]; exact ⟨by decide, by decide⟩
    show (C1 q5).1 = 1 ∧ _
    simp only [h7]
    refine ⟨trivial, ⟨by omega, by omega⟩, ⟨by omega, by omega⟩, ⟨by omega, by omega⟩, fun _ => ?_, fun z => absurd e9 z⟩
    exact ih (k + 1) M2 C1 _ _ _ (by omega) (by omega) hq2 (hs.rnd hf1 hr1 n1 n2 n3 n4 n5 n6)
theorem ip_397 {E F G N : Nat → Int} {T : Nat} (hV : VJ j.1 j.2) (hfa : ∀ i, i < 4 * j.1 → fa i = j.2 i) (hfb : fb 0 = (j.1 : Int)) (hl : lineOk l.1 l.2.1 l.2.2.1 l.2.2.2) (hT : PT j.1 j.2 l.1 l.2.1 l.2.2.1 l.2.2.2 T) (hN : ∀ s, N s = if s < T then nmF j.1 j.2 l.1 l.2.1 l.2.2.1 l.2.2.2 s else 0) {i10 : Int} (h10 : i10 = pSum j.1 j.2 l.1 l.2.1 l.2.2.1 l.2.2.2 T)
    {M : Mem} {C : LMem} {kc : Nat} (hkc : kc ≤ 1000) (q : IQ j l c n e g h t M) (hs : RSq C0 r a b q2 q3 q4 q5 fa fb E F G N C)
    (hN2 : ∀ (M : Mem) (kc : Nat) (i17 : Int), kc ≤ 1000 → IQ j l c n e g h t M → (0 ≤ i17 ∧ i17 ≤ 600) → ∀ o10 o15 o16 o19 o20, L_W_isPlay_437 (d + 130) Q M C kc r a b o4 o5 q2 q3 q4 q5 o10 o11 o12 o13 o14 o15 o16 i17 0 o19 o20) :
    ∀ (m k : Nat) (i16 : Int) (o15 o18 o19 o20 : Option PV), k + m = 2000 → i16 = sumN N k → L_W_isPlay_397 (d + 130) Q M C kc r a b o4 o5 q2 q3 q4 q5 i10 o11 o12 o13 o14 o15 i16 (k : Int) o18 o19 o20 := by
  have hTl := hT.le hV hl.1.1
  have h24 := hV.1
  obtain ⟨-, h2, h3, -, -, -, h7, -⟩ := id hs
  intro m
  induction m with
  | zero =>
    intro k i16 o15 o18 o19 o20 hk hi
    have e1 : i16 = i10 := by
      rw [hi, h10, ← e1_all hV hl.1.1 T hT, show k = T + (k - T) by omega]
      refine sumN_tail (fun s hs => ?_) (fun s hs => ?_) _
      · rw [hN, if_pos hs]
      · rw [hN, if_neg (by omega)]
    have rg := pSum_r hV hl.1.1 hT
    rw [← h10] at rg
    refine b_W_isPlay_397 ⟨⟨by omega, by omega⟩, fun _ => ⟨⟨by omega, by omega⟩, ⟨by omega, by omega⟩, fun z => absurd e1 z, fun _ => ⟨by omega, ?_⟩⟩, fun z => absurd (by omega) z⟩
    refine d_number q ⟨by decide, by decide⟩ _ ?_
    rintro v M1 ⟨hq1, U, hU, hv⟩
    have v0 : v = 0 := by rw [hv]; unfold numVal; rw [if_neg (by omega)]
    show R32 v ∧ _
    simp only [h2, h3, hfb]
    refine ⟨⟨by omega, by omega⟩, fun _ => ⟨trivial, ⟨by omega, by omega⟩, ⟨by omega, by omega⟩, fun z => ⟨trivial, ⟨by omega, by omega⟩, ?_⟩, fun _ => hN2 M1 _ 5 (by omega) hq1 ⟨by decide, by decide⟩ _ _ _ _ _⟩, fun z => absurd v0 z⟩
    have hj := hV.2.1 (j.1 - 1) (by omega)
    unfold jobOk at hj
    rw [show (4 * (j.1 : Int) - 4).toNat = 4 * (j.1 - 1) by omega, hfa _ (by omega)]
    exact hN2 M1 _ _ (by omega) hq1 ⟨by omega, by omega⟩ _ _ _ _ _
  | succ m ih =>
    intro k i16 o15 o18 o19 o20 hk hi
    refine b_W_isPlay_397 ⟨⟨by omega, by omega⟩, fun z => absurd z (by omega), fun _ => ?_⟩
    simp only [h7, Int.toNat_natCast]
    refine ⟨trivial, ⟨by omega, by omega⟩, ?_⟩
    exact ih (k + 1) _ _ _ _ _ (by omega) (by rw [hi]; rfl)
end IP2
