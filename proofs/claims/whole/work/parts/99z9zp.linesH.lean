/-! The calls of the line: line, jobAt, numberAt, meanTime, sumTimes. -/
/-- the jobs stand, the plays may have changed -/
theorem Iv.pla {l ss fs : List Nat} {M M' : Mem} {n : Nat} (h : Iv M) (hJ : vJ M n) (f : FM l ss fs M M') (h1 : nin l (keepC.filter fun a => !([54, 55, 56, 57, 58, 148, 149].contains a)) = true) (h2 : nin ss [2, 6, 7, 16, 17, 18, 24, 25, 26, 27] = true) (hF : vF M') (hZ : AZ M') (hL : vL M' n) : Iv M' := by
  obtain ⟨_, _, a, _, e, g, k, m⟩ := h
  exact ⟨hF, hZ, a.fm f (nin_s h1 (by decide)) (nin_s h2 (by decide)), ⟨n, hJ.fm f (nin_s h1 (by decide)) (nin_s h2 (by decide)), hL⟩, e.fm f (nin_s h1 (by decide)) (nin_s h2 (by decide)), g.fm f (nin_s h1 (by decide)) (nin_s h2 (by decide)), k.fm f (nin_s h1 (by decide)) (nin_s h2 (by decide)), m.fm f (nin_s h1 (by decide))⟩
theorem h_line {a b c e : Int} (ha : R32 a) (hb : R32 b) (hc : R32 c) (he : R32 e) : Hca cQ_line cM_line [2] [.inl a, .inl b, .inl c, .inl e] := by
  intro M h
  obtain ⟨n, hJ, a0, b0, c0, e0, g, s8, s9, s10, s11, hF⟩ := h.2.2.2.1
  refine ((s_Qline (d := 0) ha hb hc he).le (by decide)) _ fun r M1 h1 => ?_
  rcases h1 with ⟨n1, rfl, rfl⟩ | ⟨p1, rfl, f1, g0, g1, g2, g3, g7, g6⟩
  · refine ((s_Mline (d := 0) ha hb hc he).le (by decide)) _ fun v M2 h2 => ?_
    rcases h2 with ⟨m1, rfl⟩ | ⟨o1, _⟩
    · exact ⟨h.slot, agr.er 0 rfl u2_same⟩
    · exact absurd o1 n1
  · have k1 := f1.hi (by decide)
    refine ((s_Mline (d := 0) ha hb hc he).le (by decide)) _ fun v M2 h2 => ?_
    rcases h2 with ⟨m1, rfl⟩ | ⟨o1, rfl, f2, t8, t9, t10, t11, t0⟩
    · exact absurd p1 m1
    · have f2' := f2.fm (by decide) (by decide) (by decide)
      have k2 := f2'.lo (by decide)
      have F := f1.join (by decide) f2'
      rw [g.2.1, k1 175 (by decide), s9]
      refine ⟨h.pla hJ F (by decide) (by decide) (h.1.fm F (by decide) (by simp)) (F.az h.2.1 (by decide)) ⟨a, b, c, e, ?_, t8, t9, t10, t11, ?_⟩, agr.ok t0⟩
      · rw [k2 94 (by decide), f1 94 (by decide)]
        exact lineC.hi (M := M1) ⟨g0, g1, g2, g3, p1, Or.inl g7⟩ k2
      · rw [k2 94 (by decide), f1 94 (by decide)]
        exact (hF.kept f1 (by decide) (g6 6 (by decide))).hi k2
theorem Iv.lin {M M1 M2 : Mem} {n : Nat} {a b c e : Int} (h : Iv M) (hJ : vJ M n) (s8 : M 175 8 = a) (s9 : M 175 9 = b) (s10 : M 175 10 = c) (s11 : M 175 11 = e) (hF : freeC M n (M 94)) (f1 : lineFr M M1 n (M 94) a b c e) (f2 : FC rcs [0, 40, 41, 42] M1 M2) : Iv M2 := by
  obtain ⟨f1, g6, gl⟩ := f1
  have k1 := f1.hi (by decide)
  have f2' := f2.fm (by decide) (by decide) (by decide)
  have k2 := f2'.lo (by decide)
  have F := f1.join (by decide) f2'
  refine h.pla hJ F (by decide) (by decide) (h.1.fm F (by decide) (by simp)) (F.az h.2.1 (by decide)) ⟨a, b, c, e, ?_, ?_, ?_, ?_, ?_, ?_⟩
  · rw [k2 94 (by decide), f1 94 (by decide)]
    exact gl.hi k2
  · rw [f2.2 8 (by simp), k1 175 (by decide)]; exact s8
  · rw [f2.2 9 (by simp), k1 175 (by decide)]; exact s9
  · rw [f2.2 10 (by simp), k1 175 (by decide)]; exact s10
  · rw [f2.2 11 (by simp), k1 175 (by decide)]; exact s11
  · rw [k2 94 (by decide), f1 94 (by decide)]
    exact (hF.kept f1 (by decide) (g6 6 (by decide))).hi k2
theorem h_jobAt {x y : Int} (hx : R32 x) (hy : R32 y) : Hca cQ_jobAt cM_jobAt [4, 2] [.inl x, .inl y] := by
  intro M h
  obtain ⟨n, hJ, a, b, c, e, g, s8, s9, s10, s11, hF⟩ := h.2.2.2.1
  have hJ' := hJ
  obtain ⟨hV, c117, s6, e151, _⟩ := hJ
  refine ((s_QjobAt (d := 0) hV c117 rfl g hx hy).le (by decide)) _ fun r M1 h1 => ?_
  obtain ⟨f1, h1⟩ := h1
  have k1 := f1.1.hi (by decide)
  have e175 := k1 175 (by decide)
  refine ((s_MjobAt (d := 0) (M := M1) (J := M 94) hV (by rw [e175]; exact s6) (by rw [k1 151 (by decide)]; exact e151) (by rw [e175]; exact s8) (by rw [e175]; exact s9) (by rw [e175]; exact s10) (by rw [e175]; exact s11) g.2.2.2.2.1 hx hy).le (by decide)) _ fun v M2 h2 => ?_
  obtain ⟨f2, h2⟩ := h2
  refine ⟨h.lin hJ' s8 s9 s10 s11 hF f1 f2, ?_⟩
  rcases h1 with ⟨n1, rfl⟩ | ⟨p1, n2, rfl⟩ | ⟨p1, p2, hr⟩
  · rcases h2 with ⟨m1, t⟩ | ⟨o1, _⟩ | ⟨o1, _⟩
    · exact agr.er 0 rfl t
    · exact absurd o1 n1
    · exact absurd o1 n1
  · rcases h2 with ⟨m1, t⟩ | ⟨o1, _, t⟩ | ⟨o1, o2, _⟩
    · exact absurd p1 m1
    · exact agr.er 1 rfl t
    · exact absurd o2 n2
  · rcases h2 with ⟨m1, t⟩ | ⟨o1, m2, t⟩ | ⟨_, _, t, T, hT, rfl⟩
    · exact absurd p1 m1
    · exact absurd p2 m2
    · rw [hr T hT]
      exact agr.ok t
theorem h_numberAt {x : Int} (hx : R32 x) : Hca cQ_numberAt cM_numberAt [] [.inl x] := by
  intro M h
  obtain ⟨n, hJ, a, b, c, e, g, s8, s9, s10, s11, hF⟩ := h.2.2.2.1
  have hJ' := hJ
  obtain ⟨hV, c117, s6, e151, _⟩ := hJ
  refine ((s_QnumberAt (d := 0) hV c117 rfl g hx).le (by decide)) _ fun r M1 h1 => ?_
  obtain ⟨f1, T, hT, rfl⟩ := h1
  have k1 := f1.1.hi (by decide)
  have e175 := k1 175 (by decide)
  refine ((s_MnumberAt (d := 0) (M := M1) (J := M 94) hV (by rw [e175]; exact s6) (by rw [k1 151 (by decide)]; exact e151) (by rw [e175]; exact s8) (by rw [e175]; exact s9) (by rw [e175]; exact s10) (by rw [e175]; exact s11) g.2.2.2.2.1 hx).le (by decide)) _ fun v M2 h2 => ?_
  obtain ⟨f2, t, U, hU, rfl⟩ := h2
  have q := hT.uniq hU
  subst q
  exact ⟨h.lin hJ' s8 s9 s10 s11 hF f1 f2, agr.ok t⟩
theorem h_meanTime {x : Int} (hx : R32 x) : Hca cQ_meanTime cM_meanTime [2] [.inl x] := by
  intro M h
  obtain ⟨q0, _, hc0, _⟩ := h.1
  obtain ⟨n, hJ, a, b, c, e, g, s8, s9, s10, s11, hF⟩ := h.2.2.2.1
  have hJ' := hJ
  obtain ⟨hV, c117, s6, e151, _⟩ := hJ
  refine ((s_QmeanTime (d := 0) hV c117 rfl g hc0 hx).le (by decide)) _ fun r M1 h1 => ?_
  rcases h1 with ⟨n1, rfl, rfl⟩ | ⟨p1, f1, g6, gl, T, hT, hc, rfl⟩
  · refine ((s_MmeanTime (d := 0) hV s6 e151 s8 s9 s10 s11 g.2.2.2.2.1 hx).le (by decide)) _ fun v M2 h2 => ?_
    rcases h2 with ⟨m1, rfl⟩ | ⟨o1, _⟩
    · exact ⟨h.slot, agr.er 0 rfl u2_same⟩
    · exact absurd o1 n1
  · have k1 := f1.hi (by decide)
    have e175 := k1 175 (by decide)
    refine ((s_MmeanTime (d := 0) (M := M1) (J := M 94) hV (by rw [e175]; exact s6) (by rw [k1 151 (by decide)]; exact e151) (by rw [e175]; exact s8) (by rw [e175]; exact s9) (by rw [e175]; exact s10) (by rw [e175]; exact s11) g.2.2.2.2.1 hx).le (by decide)) _ fun v M2 h2 => ?_
    rcases h2 with ⟨m1, rfl⟩ | ⟨o1, f2, t, U, hU, hq, rfl⟩
    · exact absurd p1 m1
    · have q := hT.uniq hU
      subst q
      have k2 := f2.lo (by decide)
      have F := f1.join (by decide) f2
      have z1 : AZ M1 := h.2.1.res f1 hc fun r q1 q2 q3 => by simp at q3; omega
      refine ⟨h.pla hJ' F (by decide) (by decide) (vF.mk hc k2 hq) (z1.low fun a ha => k2 a (by omega)) ⟨a, b, c, e, ?_, ?_, ?_, ?_, ?_, ?_⟩, agr.ok t⟩
      · rw [k2 94 (by decide), f1 94 (by decide)]
        exact gl.hi k2
      · rw [f2.2.1 8 (by simp), e175]; exact s8
      · rw [f2.2.1 9 (by simp), e175]; exact s9
      · rw [f2.2.1 10 (by simp), e175]; exact s10
      · rw [f2.2.1 11 (by simp), e175]; exact s11
      · rw [k2 94 (by decide), f1 94 (by decide)]
        exact (hF.kept f1 (by decide) (g6 6 (by decide))).hi k2
theorem h_sumTimes {x : Int} (hx : R32 x) : Hca cQ_sumTimes cM_sumTimes [] [.inl x] := by
  intro M h
  obtain ⟨n, hJ, a, b, c, e, g, s8, s9, s10, s11, hF⟩ := h.2.2.2.1
  have hJ' := hJ
  obtain ⟨hV, c117, s6, e151, _⟩ := hJ
  refine ((s_QsumTimes (d := 0) hV c117 rfl g hF hx).le (by decide)) _ fun r M1 h1 => ?_
  rcases h1 with ⟨hx0, f1, T, hT, rfl⟩ | ⟨hx0, f1, g6, gF, T, hT, rfl⟩
  · have k1 := f1.1.hi (by decide)
    have e175 := k1 175 (by decide)
    refine ((s_MsumTimes (d := 0) (M := M1) (J := M 94) hV (by rw [e175]; exact s6) (by rw [k1 151 (by decide)]; exact e151) (by rw [e175]; exact s8) (by rw [e175]; exact s9) (by rw [e175]; exact s10) (by rw [e175]; exact s11) g.2.2.2.2.1 hx).le (by decide)) _ fun v M2 h2 => ?_
    obtain ⟨f2, t, ⟨_, U, hU, rfl⟩ | ⟨z, _⟩⟩ := h2
    · have q := hT.uniq hU
      subst q
      exact ⟨h.lin hJ' s8 s9 s10 s11 hF f1 f2, agr.ok t⟩
    · exact absurd hx0 z
  · have k1 := f1.hi (by decide)
    have e175 := k1 175 (by decide)
    refine ((s_MsumTimes (d := 0) (M := M1) (J := M 94) hV (by rw [e175]; exact s6) (by rw [k1 151 (by decide)]; exact e151) (by rw [e175]; exact s8) (by rw [e175]; exact s9) (by rw [e175]; exact s10) (by rw [e175]; exact s11) g.2.2.2.2.1 hx).le (by decide)) _ fun v M2 h2 => ?_
    obtain ⟨f2, t, ⟨z, _⟩ | ⟨_, U, hU, rfl⟩⟩ := h2
    · exact absurd z hx0
    · have q := hT.uniq hU
      subst q
      have f2' := f2.fm (by decide) (by decide) (by decide)
      have k2 := f2'.lo (by decide)
      have F := f1.join (by decide) f2'
      refine ⟨h.pla hJ' F (by decide) (by decide) (h.1.fm F (by decide) (by simp)) (F.az h.2.1 (by decide)) ⟨a, b, c, e, ?_, ?_, ?_, ?_, ?_, ?_⟩, agr.ok t⟩
      · rw [k2 94 (by decide), f1 94 (by decide)]
        exact (g.kept f1 (by decide) (by decide) (by decide) (by decide) (by decide) (g6 7 (by decide))).hi k2
      · rw [f2.2 8 (by simp), e175]; exact s8
      · rw [f2.2 9 (by simp), e175]; exact s9
      · rw [f2.2 10 (by simp), e175]; exact s10
      · rw [f2.2 11 (by simp), e175]; exact s11
      · rw [k2 94 (by decide), f1 94 (by decide)]
        exact gF.hi k2
