/-! isEnvelope: the line behind the envelope. -/
section IE2
variable {d : Nat} {Q : LQ} {C0 C : LMem} {j : StJ} {l : StL} {c : StC} {n : StN} {e : StE} {g : StG} {h : StH} {t : StT} {M : Mem} {r aa bb : Nat} {fa fb : Nat → Int} {o12 o13 o14 o15 : Option PV}
theorem ie_29 (q : IQ j l c n e g h t M) (hr : ∃ f, C r = (1, 1, f)) (ha : C aa = (1, 120, fa)) (hb : C bb = (1, 10, fb)) (hfa : ∀ i, i < 4 * j.1 → fa i = j.2 i) (hfb : fb 0 = (j.1 : Int)) (hf : LF [r] C0 C) {kc : Nat} (hkc : kc ≤ 10)
    (hN : ∀ (C : LMem) (kc : Nat) (o2 o3 o7 o8 o9 o10 o11 : Option PV), kc ≤ 60 → LF [r] C0 C → (∃ f, C r = (1, 1, f)) → L_W_isEnvelope_170 (d + 130) Q M C kc r o2 o3 e.1 e.2.1 e.2.2.1 o7 o8 o9 o10 o11 o12 o13 o14 o15) :
    ∀ (u i : Nat) (x : Int) (o9 o10 o11 : Option PV), i + u = j.1 → fitF j.2 j.1 e.1 e.2.1 e.2.2.1 i i x → L_W_isEnvelope_29 (d + 130) Q M C kc r aa bb e.1 e.2.1 e.2.2.1 x (i : Int) o9 o10 o11 o12 o13 o14 o15 := by
  have hV := q.jobR
  have h24 := hV.1
  have hE := q.ev.1
  have hbo : (0 ≤ e.1 ∧ e.1 ≤ 999) ∧ (0 ≤ e.2.1 ∧ e.2.1 ≤ 99) ∧ 1 ≤ e.2.2.1 ∧ e.2.2.1 ≤ 99 := ⟨hE.1, hE.2.1, hE.2.2.1⟩
  intro u
  induction u with
  | zero =>
    intro i x o9 o10 o11 hi hx
    obtain rfl : i = j.1 := by omega
    have hx1 : x = 1 ∨ x = 0 := hx.imp (fun z => z.1) (fun z => z.1)
    refine b_W_isEnvelope_29 ?_
    simp only [hb, hfb]
    refine ⟨trivial, ⟨by omega, by omega⟩, ⟨by omega, by omega⟩, ⟨by omega, by omega⟩, fun _ => ⟨by omega, ?_⟩, fun z => absurd (by omega) z⟩
    refine d_fits q _ ?_
    rintro v M1 ⟨rfl, hv⟩
    have hlaw := fit_law (b := e.1) (a := e.2.1) (p := e.2.2.1) hV (by omega)
    have hvx : v = x := by
      rcases hv with ⟨v1, v2⟩ | ⟨v1, v2⟩
      · rcases hx with ⟨x1, x2⟩ | ⟨x1, i', k', x3, x4, x5⟩
        · rw [v1, x1]
        · exact absurd (hlaw.mp v2 i' k' x3 x4) x5
      · rcases hx with ⟨x1, x2⟩ | ⟨x1, -⟩
        · exact absurd (hlaw.mpr fun i' k' h1 h2 => x2 i' k' (by omega) h1 h2) v2
        · rw [v1, x1]
    show R32 v ∧ _
    refine ⟨⟨by omega, by omega⟩, ⟨by omega, by omega⟩, fun _ => ⟨fun _ => hN C _ _ _ _ _ _ _ _ (by omega) hf hr, fun z0 => ⟨⟨by omega, by omega⟩, ⟨by omega, by omega⟩, fun _ => hN C _ _ _ _ _ _ _ _ (by omega) hf hr, fun zp => ⟨by omega, fun q2 hq2 => ?_⟩⟩⟩, fun z => absurd hvx z⟩
    have hfit : fitOk j.1 j.2 e.1 e.2.1 e.2.2.1 := by
      rcases hv with ⟨v1, v2⟩ | ⟨v1, v2⟩
      · exact v2
      · exact absurd (hvx.symm.trans v1) z0
    obtain ⟨f, hr⟩ := hr
    have r2 := ne_new hr hq2
    have a2 := ne_new ha hq2
    have b2 := ne_new hb hq2
    have wb2 : cst C q2 (1, 24, fun _ => 0) bb = (1, 10, fb) := by rw [cst_ne (Ne.symm b2)]; exact hb
    simp only [wb2, hfb]
    refine ⟨trivial, ⟨by omega, by omega⟩, by omega, fun q3 hq3' => ⟨by omega, fun q4 hq4' => ⟨by omega, fun q5 hq5' => ⟨by omega, ?_⟩⟩⟩⟩
    have n32 : q3 ≠ q2 := fun z => by rw [z, cst_self] at hq3'; cases hq3'
    have hq3 : (C q3).1 = 0 := by rw [cst_ne n32] at hq3'; exact hq3'
    have n43 : q4 ≠ q3 := fun z => by rw [z, cst_self] at hq4'; cases hq4'
    have n42 : q4 ≠ q2 := fun z => by rw [z, cst_ne (Ne.symm n32), cst_self] at hq4'; cases hq4'
    have hq4 : (C q4).1 = 0 := by rw [cst_ne n43, cst_ne n42] at hq4'; exact hq4'
    have n54 : q5 ≠ q4 := fun z => by rw [z, cst_self] at hq5'; cases hq5'
    have n53 : q5 ≠ q3 := fun z => by rw [z, cst_ne (Ne.symm n43), cst_self] at hq5'; cases hq5'
    have n52 : q5 ≠ q2 := fun z => by rw [z, cst_ne (Ne.symm n42), cst_ne (Ne.symm n32), cst_self] at hq5'; cases hq5'
    have hq5 : (C q5).1 = 0 := by rw [cst_ne n54, cst_ne n53, cst_ne n52] at hq5'; exact hq5'
    have r3 := ne_new hr hq3
    have r4 := ne_new hr hq4
    have r5 := ne_new hr hq5
    have a3 := ne_new ha hq3
    have a4 := ne_new ha hq4
    have a5 := ne_new ha hq5
    have b3 := ne_new hb hq3
    have b4 := ne_new hb hq4
    have b5 := ne_new hb hq5
    have z2 := hf.free hq2
    have z3 := hf.free hq3
    have z4 := hf.free hq4
    have z5 := hf.free hq5
    have fz : LF [r] C0 (cst (cst (cst (cst C q2 (1, 24, fun _ => 0)) q3 (1, 24, fun _ => 0)) q4 (1, 24, fun _ => 0)) q5 (1, 2000, fun _ => 0)) := (((hf.set z2).set z3).set z4).set z5
    have w : ∀ {x : Nat} {y : LCel}, C x = y → q2 ≠ x → q3 ≠ x → q4 ≠ x → q5 ≠ x → cst (cst (cst (cst C q2 (1, 24, fun _ => 0)) q3 (1, 24, fun _ => 0)) q4 (1, 24, fun _ => 0)) q5 (1, 2000, fun _ => 0) x = y := fun {x y} h1 h2 h3 h4 h5 => by
      rw [cst_ne (Ne.symm h5), cst_ne (Ne.symm h4), cst_ne (Ne.symm h3), cst_ne (Ne.symm h2)]; exact h1
    have wr := w hr r2 r3 r4 r5
    have wa := w ha a2 a3 a4 a5
    have wb := w hb b2 b3 b4 b5
    have w2 : cst (cst (cst (cst C q2 (1, 24, fun _ => 0)) q3 (1, 24, fun _ => 0)) q4 (1, 24, fun _ => 0)) q5 (1, 2000, fun _ => 0) q2 = (1, 24, fun _ => 0) := by rw [cst_ne (Ne.symm n52), cst_ne (Ne.symm n42), cst_ne (Ne.symm n32), cst_self]
    have w3 : cst (cst (cst (cst C q2 (1, 24, fun _ => 0)) q3 (1, 24, fun _ => 0)) q4 (1, 24, fun _ => 0)) q5 (1, 2000, fun _ => 0) q3 = (1, 24, fun _ => 0) := by rw [cst_ne (Ne.symm n53), cst_ne (Ne.symm n43), cst_self]
    have w4 : cst (cst (cst (cst C q2 (1, 24, fun _ => 0)) q3 (1, 24, fun _ => 0)) q4 (1, 24, fun _ => 0)) q5 (1, 2000, fun _ => 0) q4 = (1, 24, fun _ => 0) := by rw [cst_ne (Ne.symm n54), cst_self]
    have w5 : cst (cst (cst (cst C q2 (1, 24, fun _ => 0)) q3 (1, 24, fun _ => 0)) q4 (1, 24, fun _ => 0)) q5 (1, 2000, fun _ => 0) q5 = (1, 2000, fun _ => 0) := cst_self
    generalize cst (cst (cst (cst C q2 (1, 24, fun _ => 0)) q3 (1, 24, fun _ => 0)) q4 (1, 24, fun _ => 0)) q5 (1, 2000, fun _ => 0) = C2 at *
    obtain ⟨T, hT⟩ := PT_ex (many := 1) (by_ := 0) (space := 24) (wait := 5000) hV (by decide)
    refine s_plays (d := d + 129) wa w3 w2 w4 w5 ⟨⟨Ne.symm a3, Ne.symm a2, Ne.symm a4, Ne.symm a5⟩, ⟨n32, Ne.symm n43, Ne.symm n53⟩, ⟨Ne.symm n42, Ne.symm n52⟩, Ne.symm n54⟩ hV hfa ⟨by decide, by decide⟩ ⟨by decide, by decide⟩ ⟨by decide, by decide⟩ ⟨by decide, by decide⟩ hT _ ?_
    rintro v6 M6 C6 ⟨rfl, hv6, hf6, E, F, G, N, e3, e2, e4, e5, hP1, hP2, hP3⟩
    have mem4 : ∀ x, q2 ≠ x → q3 ≠ x → q4 ≠ x → q5 ≠ x → x ∉ [q3, q2, q4, q5] := fun x z1 z2 z3 z4 hx => by
      rcases List.mem_cons.mp hx with w | hx
      · exact z2 w.symm
      rcases List.mem_cons.mp hx with w | hx
      · exact z1 w.symm
      rcases List.mem_cons.mp hx with w | hx
      · exact z3 w.symm
      · exact z4 (List.mem_singleton.mp hx).symm
    have hf9 : LF [r] C0 C6 := fz.trN hf6 fun y hy => by
      rcases List.mem_cons.mp hy with w | hy
      · rw [w]; exact z3
      rcases List.mem_cons.mp hy with w | hy
      · rw [w]; exact z2
      rcases List.mem_cons.mp hy with w | hy
      · rw [w]; exact z4
      · rw [List.mem_singleton.mp hy]; exact z5
    have g1 := hf6.at' (k := 0) (mem4 r r2 r3 r4 r5) wr
    have g2 := hf6.at' (k := 0) (mem4 aa a2 a3 a4 a5) wa
    have g3 := hf6.at' (k := 0) (mem4 bb b2 b3 b4 b5) wb
    have hTw := hT.wait hV (by decide) (by decide) (by decide : (961 : Int) ≤ 999)
    have hmax := (maxN_le hbo.1.1 j.1).mp (e5_all hV hbo.1.1 hbo.2.1.1 hbo.2.2.1 (by omega) hfit T hTw)
    have hat := sAt_wait (many := 1) (by_ := 0) (space := 24) (w := 5000) (w' := 999) hV (by decide) (by decide) (by decide) T
    have l150 : ∀ (u k : Nat), k + u = j.1 → L_W_isEnvelope_150 (d + 130) Q M6 C6 (kc + 0 + 1 + 1 + 1 + 39 + 3) r aa bb e.1 e.2.1 e.2.2.1 (some (.inl x)) q2 (k : Int) o10 o11 o12 o13 o14 o15 := by
      intro u
      induction u with
      | zero =>
        intro k hk
        refine b_W_isEnvelope_150 ?_
        simp only [g3, hfb]
        exact ⟨trivial, ⟨by omega, by omega⟩, ⟨by omega, by omega⟩, ⟨by omega, by omega⟩, fun _ => hN C6 _ _ _ _ _ _ _ _ (by omega) hf9 ⟨f, g1⟩, fun z => absurd (by omega) z⟩
      | succ u ihu =>
        intro k hk
        have hkj : k < j.1 := by omega
        have hP := (hP1 k hkj).2.1
        have hm := hmax k hkj
        unfold pTime at hm
        rw [hat] at hP
        rw [← hP] at hm
        have hjb := hTw.job hV (by decide) hkj
        rw [← hP] at hjb
        refine b_W_isEnvelope_150 ?_
        simp only [g3, hfb, e2, g2, Int.toNat_natCast]
        rw [show (4 * (k : Int)).toNat = 4 * k by omega, hfa _ (by omega)]
        refine ⟨trivial, ⟨by omega, by omega⟩, ⟨by omega, by omega⟩, ⟨by omega, by omega⟩, fun z => absurd z (by omega), fun _ => ⟨trivial, ⟨by omega, by omega⟩, trivial, ⟨by omega, by omega⟩, ⟨by omega, by omega⟩, ⟨by omega, by omega⟩, fun _ => ?_, fun z => absurd hm z⟩⟩
        exact ihu (k + 1) (by omega)
    exact l150 j.1 0 (by omega)
  | succ u ih =>
    intro i x o9 o10 o11 hi hx
    refine b_W_isEnvelope_29 ?_
    simp only [hb, hfb]
    refine ⟨trivial, ⟨by omega, by omega⟩, ⟨by omega, by omega⟩, ⟨by omega, by omega⟩, fun z => absurd z (by omega), fun _ => ?_⟩
    exact ie_36 hV ha hb hfa hfb hbo (by omega) (fun y o9 o10 o11 hy => ih (i + 1) y o9 o10 o11 (by omega) hy) (j.1 - i) i x _ _ (by omega) (Nat.le_refl i) hx
end IE2
