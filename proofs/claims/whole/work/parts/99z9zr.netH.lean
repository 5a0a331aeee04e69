/-! The calls of nets. -/
/-- only the net has changed -/
theorem Iv.net {l ss fs : List Nat} {M M' : Mem} (h : Iv M) (f : FM l ss fs M M') (h1 : nin l ((List.range 54 ++ keepC).filter fun a => !([132, 133, 134, 135, 136, 137, 142, 155, 156, 157].contains a)) = true) (h2 : nin ss [2, 6, 7, 8, 9, 10, 11, 16, 17, 24, 25, 26, 27] = true) (h3 : 80 ∉ fs) (hN : vN M') : Iv M' := by
  obtain ⟨z, y, a, ⟨n, b, c⟩, e, _, k, m⟩ := h
  exact ⟨z.fm f (nin_s h1 (by decide)) h3, f.az y (nin_s h1 (by decide)), a.fm f (nin_s h1 (by decide)) (nin_s h2 (by decide)), ⟨n, b.fm f (nin_s h1 (by decide)) (nin_s h2 (by decide)), c.fm f (nin_s h1 (by decide)) (nin_s h2 (by decide))⟩, e.fm f (nin_s h1 (by decide)) (nin_s h2 (by decide)), hN, k.fm f (nin_s h1 (by decide)) (nin_s h2 (by decide)), m.fm f (nin_s h1 (by decide))⟩
theorem h_net {i : Int} (hi : R32 i) : Hca cQ_net cM_net [2] [.inl i] := by
  intro M h
  obtain ⟨n, C, S, A, hO, hC, hR⟩ := h.2.2.2.2.2.1
  refine ((s_Qnet (d := 0) hi).le (by decide)) _ fun r M1 h1 => ?_
  refine ((s_Mnet (d := 0) hi).le (by decide)) _ fun v M2 h2 => ?_
  rcases h1 with ⟨n1, rfl, rfl⟩ | ⟨p1, rfl, f1, g⟩
  · rcases h2 with ⟨m1, rfl⟩ | ⟨o1, _⟩
    · exact ⟨h.slot, agr.er 0 rfl u2_same⟩
    · exact absurd o1 n1
  · rcases h2 with ⟨m1, rfl⟩ | ⟨o1, rfl, t, f2, g2⟩
    · exact absurd p1 m1
    · have f2' := f2.fm (by decide) (by decide) (by decide)
      have k2 := f2'.lo (by decide)
      have F := f1.join (by decide) f2'
      rw [hC.1, f1.hi (by decide) 175 (by decide), hR.1]
      exact ⟨h.net F (by decide) (by decide) (by simp) ⟨_, _, _, _, nOk_new ⟨by omega, by omega⟩, g.hi k2, g2⟩, agr.ok t⟩
theorem h_node {i c s : Int} (hi : R32 i) (hc : R32 c) (hs : R32 s) : Hca cQ_node cM_node [4, 2] [.inl i, .inl c, .inl s] := by
  intro M h
  obtain ⟨n, C, S, A, hO, hC, hR⟩ := h.2.2.2.2.2.1
  refine ((s_Qnode (d := 0) hC hO hi hc hs).le (by decide)) _ fun r M1 h1 => ?_
  rcases h1 with ⟨n1, rfl, rfl⟩ | ⟨p1, n2, rfl, rfl⟩ | ⟨p1, p2, rfl, f1, g⟩
  · refine ((s_Mnode (d := 0) hR hO hi hc hs).le (by decide)) _ fun v M2 h2 => ?_
    rcases h2 with ⟨m1, rfl⟩ | ⟨o1, m2, rfl⟩ | ⟨o1, _⟩
    · exact ⟨h.slot, agr.er 0 rfl u2_same⟩
    · exact absurd o1 n1
    · exact absurd o1 n1
  · refine ((s_Mnode (d := 0) hR hO hi hc hs).le (by decide)) _ fun v M2 h2 => ?_
    rcases h2 with ⟨m1, rfl⟩ | ⟨o1, m2, rfl⟩ | ⟨o1, o2, _⟩
    · exact absurd p1 m1
    · exact ⟨h.slot, agr.er 1 rfl u2_same⟩
    · exact absurd o2 n2
  · refine ((s_Mnode (d := 0) (hR.low (f1.hi (by decide))) hO hi hc hs).le (by decide)) _ fun v M2 h2 => ?_
    rcases h2 with ⟨m1, rfl⟩ | ⟨o1, m2, rfl⟩ | ⟨o1, o2, rfl, t, f2, g2⟩
    · exact absurd p1 m1
    · exact absurd p2 m2
    · have f2' := f2.fm (by decide) (by decide) (by decide)
      have k2 := f2'.lo (by decide)
      have F := f1.join (by decide) f2'
      obtain ⟨⟨q1, q2⟩, q3, q4⟩ := p1
      exact ⟨h.net F (by decide) (by decide) (by simp) ⟨n, _, _, _, nOk_node hO p2, g.hi k2, g2⟩, agr.ok t⟩
theorem h_way {i j p : Int} (hi : R32 i) (hj : R32 j) (hp : R32 p) : Hca cQ_way cM_way [4, 2] [.inl i, .inl j, .inl p] := by
  intro M h
  obtain ⟨n, C, S, A, hO, hC, hR⟩ := h.2.2.2.2.2.1
  refine ((s_Qway (d := 0) hC hO hi hj hp).le (by decide)) _ fun r M1 h1 => ?_
  rcases h1 with ⟨n1, rfl, rfl⟩ | ⟨p1, n2, rfl, rfl⟩ | ⟨p1, p2, rfl, f1, g⟩
  · refine ((s_Mway (d := 0) hR hO hi hj hp).le (by decide)) _ fun v M2 h2 => ?_
    rcases h2 with ⟨m1, rfl⟩ | ⟨o1, m2, rfl⟩ | ⟨o1, _⟩
    · exact ⟨h.slot, agr.er 0 rfl u2_same⟩
    · exact absurd o1 n1
    · exact absurd o1 n1
  · refine ((s_Mway (d := 0) hR hO hi hj hp).le (by decide)) _ fun v M2 h2 => ?_
    rcases h2 with ⟨m1, rfl⟩ | ⟨o1, m2, rfl⟩ | ⟨o1, o2, _⟩
    · exact absurd p1 m1
    · exact ⟨h.slot, agr.er 1 rfl u2_same⟩
    · exact absurd o2 n2
  · refine ((s_Mway (d := 0) (hR.low (f1.hi (by decide))) hO hi hj hp).le (by decide)) _ fun v M2 h2 => ?_
    rcases h2 with ⟨m1, rfl⟩ | ⟨o1, m2, rfl⟩ | ⟨o1, o2, rfl, t, f2, g2⟩
    · exact absurd p1 m1
    · exact absurd p2 m2
    · have f2' := f2.fm (by decide) (by decide) (by decide)
      have k2 := f2'.lo (by decide)
      have F := f1.join (by decide) f2'
      obtain ⟨⟨q1, q2⟩, q3, q4⟩ := p1
      exact ⟨h.net F (by decide) (by decide) (by simp) ⟨n, _, _, _, nOk_way hO (by omega) (by omega) p2, g.hi k2, g2⟩, agr.ok t⟩
theorem h_rate {i : Int} (hi : R32 i) : Hca cQ_rate cM_rate [4, 5] [.inl i] := by
  intro M h
  obtain ⟨n, C, S, A, hO, hC, hR⟩ := h.2.2.2.2.2.1
  refine ((s_Qrate (d := 0) hC hO h.2.1 hi).le (by decide)) _ fun r M1 h1 => ?_
  rcases h1 with ⟨n1, rfl, rfl⟩ | ⟨p1, n2, rfl, f1⟩ | ⟨p1, p2, f1, gN, z1, c1, rfl⟩
  · refine ((s_Mrate (d := 0) hR hO hi).le (by decide)) _ fun v M2 h2 => ?_
    rcases h2 with ⟨m1, rfl⟩ | ⟨o1, m2, rfl⟩ | ⟨o1, _⟩
    · exact ⟨h.slot, agr.er 0 rfl u2_same⟩
    · exact absurd o1 n1
    · exact absurd o1 n1
  · refine ((s_Mrate (d := 0) (hR.low (f1.hi (by decide))) hO hi).le (by decide)) _ fun v M2 h2 => ?_
    rcases h2 with ⟨m1, rfl⟩ | ⟨o1, m2, rfl⟩ | ⟨o1, o2, _⟩
    · exact absurd p1 m1
    · exact ⟨h.work f1 (by decide) FM.slot (by simp) (h.2.1.l139 f1) (by decide) (by decide) (by decide), agr.er 1 rfl u2_same⟩
    · exact absurd o2 n2
  · refine ((s_Mrate (d := 0) (hR.low (f1.hi (by decide))) hO hi).le (by decide)) _ fun v M2 h2 => ?_
    rcases h2 with ⟨m1, rfl⟩ | ⟨o1, m2, rfl⟩ | ⟨o1, o2, f2, t, c2, rfl⟩
    · exact absurd p1 m1
    · exact absurd p2 m2
    · exact ⟨h.resN f1 (by decide) z1 c1 f2 c2 hO gN ((hR.low (f1.hi (by decide))).kept f2 (by decide) (by decide) (by decide) (by decide)) (by decide) (by decide) (by decide), agr.ok t⟩
theorem h_growth {i : Int} (hi : R32 i) : Hca cQ_growth cM_growth [4, 5] [.inl i] := by
  intro M h
  obtain ⟨n, C, S, A, hO, hC, hR⟩ := h.2.2.2.2.2.1
  refine ((s_Qgrowth (d := 0) hC hO h.2.1 hi).le (by decide)) _ fun r M1 h1 => ?_
  rcases h1 with ⟨n1, rfl, rfl⟩ | ⟨p1, n2, rfl, f1⟩ | ⟨p1, p2, f1, gN, z1, q1, v1, c1, rfl⟩
  · refine ((s_Mgrowth (d := 0) hR hO hi).le (by decide)) _ fun v M2 h2 => ?_
    rcases h2 with ⟨m1, rfl⟩ | ⟨o1, m2, rfl⟩ | ⟨o1, _⟩
    · exact ⟨h.slot, agr.er 0 rfl u2_same⟩
    · exact absurd o1 n1
    · exact absurd o1 n1
  · refine ((s_Mgrowth (d := 0) (hR.low (f1.hi (by decide))) hO hi).le (by decide)) _ fun v M2 h2 => ?_
    rcases h2 with ⟨m1, rfl⟩ | ⟨o1, m2, rfl⟩ | ⟨o1, o2, _⟩
    · exact absurd p1 m1
    · exact ⟨h.work f1 (by decide) FM.slot (by simp) (h.2.1.l139 f1) (by decide) (by decide) (by decide), agr.er 1 rfl u2_same⟩
    · exact absurd o2 n2
  · refine ((s_Mgrowth (d := 0) (hR.low (f1.hi (by decide))) hO hi).le (by decide)) _ fun v M2 h2 => ?_
    rcases h2 with ⟨m1, rfl⟩ | ⟨o1, m2, rfl⟩ | ⟨o1, o2, f2, t, q2, v2, c2, rfl⟩
    · exact absurd p1 m1
    · exact absurd p2 m2
    · have e := v1.uniq v2 (by obtain ⟨⟨q1, q2⟩, _⟩ := p1; omega)
      subst e
      exact ⟨h.resN f1 (by decide) z1 c1 f2 c2 hO gN ((hR.low (f1.hi (by decide))).kept f2 (by decide) (by decide) (by decide) (by decide)) (by decide) (by decide) (by decide), agr.ok t⟩
theorem h_isStable {i : Int} (hi : R32 i) : Hca cQ_isStable cM_isStable [4, 5] [.inl i] := by
  intro M h
  obtain ⟨n, C, S, A, hO, hC, hR⟩ := h.2.2.2.2.2.1
  refine ((s_QisStable (d := 0) hC hO hi).le (by decide)) _ fun r M1 h1 => ?_
  rcases h1 with ⟨n1, rfl, rfl⟩ | ⟨p1, n2, rfl, f1⟩ | ⟨p1, p2, f1, gN, g1⟩
  · refine ((s_MisStable (d := 0) hR hO hi).le (by decide)) _ fun v M2 h2 => ?_
    rcases h2 with ⟨m1, rfl⟩ | ⟨o1, m2, rfl⟩ | ⟨o1, _⟩
    · exact ⟨h.slot, agr.er 0 rfl u2_same⟩
    · exact absurd o1 n1
    · exact absurd o1 n1
  · refine ((s_MisStable (d := 0) (hR.low (f1.hi (by decide))) hO hi).le (by decide)) _ fun v M2 h2 => ?_
    rcases h2 with ⟨m1, rfl⟩ | ⟨o1, m2, rfl⟩ | ⟨o1, o2, _⟩
    · exact absurd p1 m1
    · exact ⟨h.work f1 (by decide) FM.slot (by simp) (h.2.1.l139 f1) (by decide) (by decide) (by decide), agr.er 1 rfl u2_same⟩
    · exact absurd o2 n2
  · refine ((s_MisStable (d := 0) (hR.low (f1.hi (by decide))) hO hi).le (by decide)) _ fun v M2 h2 => ?_
    rcases h2 with ⟨m1, rfl⟩ | ⟨o1, m2, rfl⟩ | ⟨o1, o2, f2, t, kq, g2⟩
    · exact absurd p1 m1
    · exact absurd p2 m2
    · have k1 := f1.hi (by decide)
      have k2 := f2.lo (by decide)
      have F := f1.join (by decide) f2
      obtain ⟨q, h0, hc, hq⟩ := h.1
      refine ⟨h.fmN F (by decide) (by decide) ⟨q, h0, (hc.kept f1 (by decide) (by decide) (by decide) (by decide)).hi k2, kq q (hq.low k1)⟩ (F.az h.2.1 (by decide)) ⟨n, C, S, A, hO, gN.hi k2, (hR.low k1).kept f2 (by decide) (by decide) (by decide) (by decide)⟩, ?_⟩
      rcases g1 with ⟨rfl, y⟩ | ⟨rfl, y⟩
      · rcases g2 with ⟨rfl, w⟩ | ⟨rfl, w⟩
        · exact agr.ok t
        · exact absurd y w
      · rcases g2 with ⟨rfl, w⟩ | ⟨rfl, w⟩
        · exact absurd w y
        · exact agr.ok t
theorem h_numbers {i m : Int} (hi : R32 i) (hm : R32 m) : Hca cQ_numbers cM_numbers [4, 2, 5] [.inl i, .inl m] := by
  intro M h
  obtain ⟨n, C, S, A, hO, hC, hR⟩ := h.2.2.2.2.2.1
  refine ((s_Qnumbers (d := 0) hC hO h.2.1 hi hm).le (by decide)) _ fun r M1 h1 => ?_
  rcases h1 with ⟨n1, rfl, rfl⟩ | ⟨p1, n2, rfl, rfl⟩ | ⟨p1, p2, n3, rfl, f1, gN⟩ | ⟨p1, p2, p3, f1, gN, z1, c1, rfl⟩
  · refine ((s_Mnumbers (d := 0) hR hO hi hm).le (by decide)) _ fun v M2 h2 => ?_
    rcases h2 with ⟨m1, rfl⟩ | ⟨o1, _⟩ | ⟨o1, _⟩ | ⟨o1, _⟩
    · exact ⟨h.slot, agr.er 0 rfl u2_same⟩
    · exact absurd o1 n1
    · exact absurd o1 n1
    · exact absurd o1 n1
  · refine ((s_Mnumbers (d := 0) hR hO hi hm).le (by decide)) _ fun v M2 h2 => ?_
    rcases h2 with ⟨m1, rfl⟩ | ⟨o1, m2, rfl⟩ | ⟨o1, o2, _⟩ | ⟨o1, o2, _⟩
    · exact absurd p1 m1
    · exact ⟨h.slot, agr.er 1 rfl u2_same⟩
    · exact absurd o2 n2
    · exact absurd o2 n2
  · refine ((s_Mnumbers (d := 0) (hR.low (f1.hi (by decide))) hO hi hm).le (by decide)) _ fun v M2 h2 => ?_
    rcases h2 with ⟨m1, rfl⟩ | ⟨o1, m2, rfl⟩ | ⟨o1, o2, m3, f2, t⟩ | ⟨o1, o2, o3, _⟩
    · exact absurd p1 m1
    · exact absurd p2 m2
    · have k1 := f1.hi (by decide)
      have k2 := f2.lo (by decide)
      have F := f1.join (by decide) f2
      exact ⟨h.fmN F (by decide) (by decide) (h.1.fm F (by decide) (by decide)) (F.az h.2.1 (by decide)) ⟨n, C, S, A, hO, gN.hi k2, (hR.low k1).kept f2 (by decide) (by decide) (by decide) (by decide)⟩, agr.er 2 rfl t⟩
    · exact absurd o3 n3
  · refine ((s_Mnumbers (d := 0) (hR.low (f1.hi (by decide))) hO hi hm).le (by decide)) _ fun v M2 h2 => ?_
    rcases h2 with ⟨m1, rfl⟩ | ⟨o1, m2, rfl⟩ | ⟨o1, o2, m3, _⟩ | ⟨o1, o2, o3, f2, t, c2, rfl⟩
    · exact absurd p1 m1
    · exact absurd p2 m2
    · exact absurd p3 m3
    · exact ⟨h.resN f1 (by decide) z1 c1 f2 c2 hO gN ((hR.low (f1.hi (by decide))).kept f2 (by decide) (by decide) (by decide) (by decide)) (by decide) (by decide) (by decide), agr.ok t⟩
theorem h_closed {j i : Int} (hj : R32 j) (hi : R32 i) : Hca cQ_closed cM_closed [4, 2, 3] [.inl j, .inl i] := by
  intro M h
  obtain ⟨n, C, S, A, hO, hC, hR⟩ := h.2.2.2.2.2.1
  refine ((s_Qclosed (d := 0) hC hO h.2.1 hj hi).le (by decide)) _ fun r M1 h1 => ?_
  rcases h1 with ⟨n1, rfl, rfl⟩ | ⟨p1, n2, rfl, rfl⟩ | ⟨p1, p2, n3, rfl, f1⟩ | ⟨p1, p2, p3, f1, gN, z1, c1, rfl⟩
  · refine ((s_Mclosed (d := 0) hR hO hj hi).le (by decide)) _ fun v M2 h2 => ?_
    rcases h2 with ⟨m1, rfl⟩ | ⟨o1, _⟩ | ⟨o1, _⟩ | ⟨o1, _⟩
    · exact ⟨h.slot, agr.er 0 rfl u2_same⟩
    · exact absurd o1 n1
    · exact absurd o1 n1
    · exact absurd o1 n1
  · refine ((s_Mclosed (d := 0) hR hO hj hi).le (by decide)) _ fun v M2 h2 => ?_
    rcases h2 with ⟨m1, rfl⟩ | ⟨o1, m2, rfl⟩ | ⟨o1, o2, _⟩ | ⟨o1, o2, _⟩
    · exact absurd p1 m1
    · exact ⟨h.slot, agr.er 1 rfl u2_same⟩
    · exact absurd o2 n2
    · exact absurd o2 n2
  · refine ((s_Mclosed (d := 0) (hR.low (f1.hi (by decide))) hO hj hi).le (by decide)) _ fun v M2 h2 => ?_
    rcases h2 with ⟨m1, rfl⟩ | ⟨o1, m2, rfl⟩ | ⟨o1, o2, m3, rfl⟩ | ⟨o1, o2, o3, _⟩
    · exact absurd p1 m1
    · exact absurd p2 m2
    · exact ⟨h.work f1 (by decide) FM.slot (by simp) (h.2.1.l139 f1) (by decide) (by decide) (by decide), agr.er 2 rfl u2_same⟩
    · exact absurd o3 n3
  · refine ((s_Mclosed (d := 0) (hR.low (f1.hi (by decide))) hO hj hi).le (by decide)) _ fun v M2 h2 => ?_
    rcases h2 with ⟨m1, rfl⟩ | ⟨o1, m2, rfl⟩ | ⟨o1, o2, m3, _⟩ | ⟨o1, o2, o3, f2, t, c2, rfl⟩
    · exact absurd p1 m1
    · exact absurd p2 m2
    · exact absurd p3 m3
    · exact ⟨h.resN f1 (by decide) z1 c1 f2 c2 hO gN ((hR.low (f1.hi (by decide))).kept f2 (by decide) (by decide) (by decide) (by decide)) (by decide) (by decide) (by decide), agr.ok t⟩
