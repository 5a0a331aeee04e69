/-! The calls of chains and of lost calls. -/
/-- only the chain has changed -/
theorem Iv.chn {l ss fs : List Nat} {M M' : Mem} (h : Iv M) (f : FM l ss fs M M') (h1 : nin l ((List.range 54 ++ keepC).filter fun a => !([118, 119, 120, 121, 122, 123, 124, 130, 154].contains a)) = true) (h2 : nin ss [2, 6, 7, 8, 9, 10, 11, 18, 24, 25, 26, 27] = true) (h3 : 80 ∉ fs) (hC : vC M') : Iv M' := by
  obtain ⟨z, y, a, ⟨n, b, c⟩, _, g, k, m⟩ := h
  exact ⟨z.fm f (nin_s h1 (by decide)) h3, f.az y (nin_s h1 (by decide)), a.fm f (nin_s h1 (by decide)) (nin_s h2 (by decide)), ⟨n, b.fm f (nin_s h1 (by decide)) (nin_s h2 (by decide)), c.fm f (nin_s h1 (by decide)) (nin_s h2 (by decide))⟩, hC, g.fm f (nin_s h1 (by decide)) (nin_s h2 (by decide)), k.fm f (nin_s h1 (by decide)) (nin_s h2 (by decide)), m.fm f (nin_s h1 (by decide))⟩
theorem h_states {i j : Int} (hi : R32 i) (hj : R32 j) : Hca cQ_states cM_states [2] [.inl i, .inl j] := by
  intro M h
  obtain ⟨n, b, A, hO, hC, hR⟩ := h.2.2.2.2.1
  refine ((s_Qstates (d := 0) hi hj).le (by decide)) _ fun r M1 h1 => ?_
  rcases h1 with ⟨n1, rfl, rfl⟩ | ⟨p1, rfl, f1, g⟩
  · refine ((s_Mstates (d := 0) hi hj).le (by decide)) _ fun v M2 h2 => ?_
    rcases h2 with ⟨m1, rfl⟩ | ⟨o1, _⟩
    · exact ⟨h.slot, agr.er 0 rfl u2_same⟩
    · exact absurd o1 n1
  · refine ((s_Mstates (d := 0) hi hj).le (by decide)) _ fun v M2 h2 => ?_
    rcases h2 with ⟨m1, rfl⟩ | ⟨o1, rfl, t, f2, g2⟩
    · exact absurd p1 m1
    · have f2' := f2.fm (by decide) (by decide) (by decide)
      have k2 := f2'.lo (by decide)
      have F := f1.join (by decide) f2'
      rw [hC.1, f1.hi (by decide) 175 (by decide), hR.1]
      have hs := p1.1
      exact ⟨h.chn F (by decide) (by decide) (by simp) ⟨i.toNat, j, cId j, cOk_id ⟨by omega, by omega⟩ p1.2, g.hi k2, g2⟩, agr.ok t⟩
theorem h_chance {i j v0 : Int} (hi : R32 i) (hj : R32 j) (hv : R32 v0) : Hca cQ_chance cM_chance [4, 2] [.inl i, .inl j, .inl v0] := by
  intro M h
  obtain ⟨n, b, A, hO, hC, hR⟩ := h.2.2.2.2.1
  refine ((s_Qchance (d := 0) hC hO hi hj hv).le (by decide)) _ fun r M1 h1 => ?_
  rcases h1 with ⟨n1, rfl, rfl⟩ | ⟨p1, n2, rfl, rfl⟩ | ⟨p1, p2, rfl, f1, g⟩
  · refine ((s_Mchance (d := 0) hR hO hi hj hv).le (by decide)) _ fun v M2 h2 => ?_
    rcases h2 with ⟨m1, rfl⟩ | ⟨o1, m2, rfl⟩ | ⟨o1, _⟩
    · exact ⟨h.slot, agr.er 0 rfl u2_same⟩
    · exact absurd o1 n1
    · exact absurd o1 n1
  · refine ((s_Mchance (d := 0) hR hO hi hj hv).le (by decide)) _ fun v M2 h2 => ?_
    rcases h2 with ⟨m1, rfl⟩ | ⟨o1, m2, rfl⟩ | ⟨o1, o2, _⟩
    · exact absurd p1 m1
    · exact ⟨h.slot, agr.er 1 rfl u2_same⟩
    · exact absurd o2 n2
  · refine ((s_Mchance (d := 0) (hR.low (f1.hi (by decide))) hO hi hj hv).le (by decide)) _ fun v M2 h2 => ?_
    rcases h2 with ⟨m1, rfl⟩ | ⟨o1, m2, rfl⟩ | ⟨o1, o2, rfl, t, f2, g2⟩
    · exact absurd p1 m1
    · exact absurd p2 m2
    · have f2' := f2.fm (by decide) (by decide) (by decide)
      have k2 := f2'.lo (by decide)
      have F := f1.join (by decide) f2'
      obtain ⟨⟨q1, q2⟩, q3, q4⟩ := p1
      exact ⟨h.chn F (by decide) (by decide) (by simp) ⟨n, b, _, cOk_up hO (by omega) (by omega) p2, g.hi k2, g2⟩, agr.ok t⟩
theorem h_group {i : Int} (hi : R32 i) : Hca cQ_group cM_group [4, 5] [.inl i] := by
  intro M h
  obtain ⟨n, b, A, hO, hC, hR⟩ := h.2.2.2.2.1
  refine ((s_Qgroup (d := 0) hC hO hi).le (by decide)) _ fun r M1 h1 => ?_
  rcases h1 with ⟨n1, rfl, rfl⟩ | ⟨p1, n2, rfl, rfl⟩ | ⟨p1, p2, f1, v1, rfl, g⟩
  · refine ((s_Mgroup (d := 0) hR hO hi).le (by decide)) _ fun v M2 h2 => ?_
    rcases h2 with ⟨m1, rfl⟩ | ⟨o1, m2, rfl⟩ | ⟨o1, _⟩
    · exact ⟨h.slot, agr.er 0 rfl u2_same⟩
    · exact absurd o1 n1
    · exact absurd o1 n1
  · refine ((s_Mgroup (d := 0) hR hO hi).le (by decide)) _ fun v M2 h2 => ?_
    rcases h2 with ⟨m1, rfl⟩ | ⟨o1, m2, rfl⟩ | ⟨o1, o2, _⟩
    · exact absurd p1 m1
    · exact ⟨h.slot, agr.er 1 rfl u2_same⟩
    · exact absurd o2 n2
  · refine ((s_Mgroup (d := 0) (hR.low (f1.hi (by decide))) hO hi).le (by decide)) _ fun v M2 h2 => ?_
    rcases h2 with ⟨m1, rfl⟩ | ⟨o1, m2, rfl⟩ | ⟨o1, o2, rfl, g2⟩
    · exact absurd p1 m1
    · exact absurd p2 m2
    · have e := g.uniq g2
      subst e
      exact ⟨h.work f1 (by decide) FM.slot (by simp) (h.2.1.lead f1) (by decide) (by decide) (by decide), agr.ok u2_same⟩

theorem h_longShare {i : Int} (hi : R32 i) : Hca cQ_longShare cM_longShare [4, 5] [.inl i] := by
  intro M h
  obtain ⟨n, b, A, hO, hC, hR⟩ := h.2.2.2.2.1
  refine ((s_QlongShare (d := 0) hC hO h.2.1 hi).le (by decide)) _ fun r M1 h1 => ?_
  rcases h1 with ⟨n1, rfl, rfl⟩ | ⟨p1, n2, rfl, rfl⟩ | ⟨p1, p2, f1, z1, q1, v1, c1, rfl⟩
  · refine ((s_MlongShare (d := 0) hR hO hi).le (by decide)) _ fun v M2 h2 => ?_
    rcases h2 with ⟨m1, rfl⟩ | ⟨o1, m2, rfl⟩ | ⟨o1, _⟩
    · exact ⟨h.slot, agr.er 0 rfl u2_same⟩
    · exact absurd o1 n1
    · exact absurd o1 n1
  · refine ((s_MlongShare (d := 0) hR hO hi).le (by decide)) _ fun v M2 h2 => ?_
    rcases h2 with ⟨m1, rfl⟩ | ⟨o1, m2, rfl⟩ | ⟨o1, o2, _⟩
    · exact absurd p1 m1
    · exact ⟨h.slot, agr.er 1 rfl u2_same⟩
    · exact absurd o2 n2
  · refine ((s_MlongShare (d := 0) (hR.low (f1.hi (by decide))) hO hi).le (by decide)) _ fun v M2 h2 => ?_
    rcases h2 with ⟨m1, rfl⟩ | ⟨o1, m2, rfl⟩ | ⟨o1, o2, f2, t, q2, v2, c2, rfl⟩
    · exact absurd p1 m1
    · exact absurd p2 m2
    · have e := v1.uniq v2
      subst e
      exact ⟨h.res f1 (by decide) z1 c1 f2 c2 (by decide) (by decide) (by decide), agr.ok t⟩
theorem h_reach {i j : Int} (hi : R32 i) (hj : R32 j) : Hca cQ_reach cM_reach [4, 5] [.inl i, .inl j] := by
  intro M h
  obtain ⟨n, b, A, hO, hC, hR⟩ := h.2.2.2.2.1
  refine ((s_Qreach (d := 0) hC hO h.2.1 hi hj).le (by decide)) _ fun r M1 h1 => ?_
  rcases h1 with ⟨n1, rfl, rfl⟩ | ⟨p1, n2, rfl, rfl⟩ | ⟨p1, p2, f1, z1, q1, v1, c1, rfl⟩
  · refine ((s_Mreach (d := 0) hR hO hi hj).le (by decide)) _ fun v M2 h2 => ?_
    rcases h2 with ⟨m1, rfl⟩ | ⟨o1, m2, rfl⟩ | ⟨o1, _⟩
    · exact ⟨h.slot, agr.er 0 rfl u2_same⟩
    · exact absurd o1 n1
    · exact absurd o1 n1
  · refine ((s_Mreach (d := 0) hR hO hi hj).le (by decide)) _ fun v M2 h2 => ?_
    rcases h2 with ⟨m1, rfl⟩ | ⟨o1, m2, rfl⟩ | ⟨o1, o2, _⟩
    · exact absurd p1 m1
    · exact ⟨h.slot, agr.er 1 rfl u2_same⟩
    · exact absurd o2 n2
  · refine ((s_Mreach (d := 0) (hR.low (f1.hi (by decide))) hO hi hj).le (by decide)) _ fun v M2 h2 => ?_
    rcases h2 with ⟨m1, rfl⟩ | ⟨o1, m2, rfl⟩ | ⟨o1, o2, f2, t, q2, v2, c2, rfl⟩
    · exact absurd p1 m1
    · exact absurd p2 m2
    · have e := v1.uniq v2
      subst e
      exact ⟨h.res f1 (by decide) z1 c1 f2 c2 (by decide) (by decide) (by decide), agr.ok t⟩
theorem h_timeTo {i j : Int} (hi : R32 i) (hj : R32 j) : Hca cQ_timeTo cM_timeTo [4, 5] [.inl i, .inl j] := by
  intro M h
  obtain ⟨n, b, A, hO, hC, hR⟩ := h.2.2.2.2.1
  refine ((s_QtimeTo (d := 0) hC hO h.2.1 hi hj).le (by decide)) _ fun r M1 h1 => ?_
  rcases h1 with ⟨n1, rfl, rfl⟩ | ⟨p1, n2, rfl, _, z1, f1⟩ | ⟨p1, p2, f1, z1, q1, v1, c1, rfl⟩
  · refine ((s_MtimeTo (d := 0) hR hO hi hj).le (by decide)) _ fun v M2 h2 => ?_
    rcases h2 with ⟨m1, rfl⟩ | ⟨o1, _⟩ | ⟨o1, _⟩
    · exact ⟨h.slot, agr.er 0 rfl u2_same⟩
    · exact absurd o1 n1
    · exact absurd o1 n1
  · have f1' : Fr [126] M M1 := fun a ha => f1 a (by simpa using ha)
    refine ((s_MtimeTo (d := 0) (hR.low (f1'.hi (by decide))) hO hi hj).le (by decide)) _ fun v M2 h2 => ?_
    rcases h2 with ⟨m1, rfl⟩ | ⟨o1, m2, f2, t⟩ | ⟨o1, o2, _⟩
    · exact absurd p1 m1
    · exact ⟨h.work f1' (by decide) f2 (by decide) z1 (by decide) (by decide) (by decide), agr.er 1 rfl t⟩
    · exact absurd o2 n2
  · refine ((s_MtimeTo (d := 0) (hR.low (f1.hi (by decide))) hO hi hj).le (by decide)) _ fun v M2 h2 => ?_
    rcases h2 with ⟨m1, rfl⟩ | ⟨o1, m2, _⟩ | ⟨o1, o2, f2, t, q2, v2, c2, rfl⟩
    · exact absurd p1 m1
    · exact absurd p2 m2
    · have e := v1.uniq v2
      subst e
      exact ⟨h.res f1 (by decide) z1 c1 f2 c2 (by decide) (by decide) (by decide), agr.ok t⟩
theorem h_behind {i j t0 : Int} (hi : R32 i) (hj : R32 j) (ht0 : R32 t0) : Hca cQ_behind cM_behind [4, 2, 5] [.inl i, .inl j, .inl t0] := by
  intro M h
  obtain ⟨n, b, A, hO, hC, hR⟩ := h.2.2.2.2.1
  refine ((s_Qbehind (d := 0) hC hO h.2.1 hi hj ht0).le (by decide)) _ fun r M1 h1 => ?_
  rcases h1 with ⟨n1, rfl, rfl⟩ | ⟨p1, n2, rfl, rfl⟩ | ⟨p1, p2, n3, rfl, rfl⟩ | ⟨p1, p2, p3, f1, z1, c1, rfl⟩
  · refine ((s_Mbehind (d := 0) hR hO hi hj ht0).le (by decide)) _ fun v M2 h2 => ?_
    rcases h2 with ⟨m1, rfl⟩ | ⟨o1, _⟩ | ⟨o1, _⟩ | ⟨o1, _⟩
    · exact ⟨h.slot, agr.er 0 rfl u2_same⟩
    · exact absurd o1 n1
    · exact absurd o1 n1
    · exact absurd o1 n1
  · refine ((s_Mbehind (d := 0) hR hO hi hj ht0).le (by decide)) _ fun v M2 h2 => ?_
    rcases h2 with ⟨m1, rfl⟩ | ⟨o1, m2, rfl⟩ | ⟨o1, o2, _⟩ | ⟨o1, o2, _⟩
    · exact absurd p1 m1
    · exact ⟨h.slot, agr.er 1 rfl u2_same⟩
    · exact absurd o2 n2
    · exact absurd o2 n2
  · refine ((s_Mbehind (d := 0) hR hO hi hj ht0).le (by decide)) _ fun v M2 h2 => ?_
    rcases h2 with ⟨m1, rfl⟩ | ⟨o1, m2, rfl⟩ | ⟨o1, o2, m3, rfl⟩ | ⟨o1, o2, o3, _⟩
    · exact absurd p1 m1
    · exact absurd p2 m2
    · exact ⟨h.slot, agr.er 2 rfl u2_same⟩
    · exact absurd o3 n3
  · refine ((s_Mbehind (d := 0) (hR.low (f1.hi (by decide))) hO hi hj ht0).le (by decide)) _ fun v M2 h2 => ?_
    rcases h2 with ⟨m1, rfl⟩ | ⟨o1, m2, rfl⟩ | ⟨o1, o2, m3, rfl⟩ | ⟨o1, o2, o3, f2, t, c2, rfl⟩
    · exact absurd p1 m1
    · exact absurd p2 m2
    · exact absurd p3 m3
    · exact ⟨h.res f1 (by decide) z1 c1 f2 c2 (by decide) (by decide) (by decide), agr.ok t⟩
theorem h_lostShare {i a b : Int} (hi : R32 i) (ha : R32 a) (hb : R32 b) : Hca cQ_lostShare cM_lostShare [2] [.inl i, .inl a, .inl b] := by
  intro M h
  refine ((s_QlostShare (d := 0) h.2.1 hi ha hb).le (by decide)) _ fun r M1 h1 => ?_
  refine ((s_MlostShare (d := 0) hi ha hb).le (by decide)) _ fun v M2 h2 => ?_
  rcases h1 with ⟨n1, rfl, rfl⟩ | ⟨p1, f1, z1, c1, rfl⟩
  · rcases h2 with ⟨m1, rfl⟩ | ⟨o1, _⟩
    · exact ⟨h.slot, agr.er 0 rfl u2_same⟩
    · exact absurd o1 n1
  · rcases h2 with ⟨m1, rfl⟩ | ⟨o1, f2, t, c2, rfl⟩
    · exact absurd p1 m1
    · exact ⟨h.res f1 (by decide) z1 c1 f2 c2 (by decide) (by decide) (by decide), agr.ok t⟩
theorem h_serversFor {a b c e : Int} (ha : R32 a) (hb : R32 b) (hc : R32 c) (he : R32 e) : Hca cQ_serversFor cM_serversFor [2, 5] [.inl a, .inl b, .inl c, .inl e] := by
  intro M h
  refine ((s_QserversFor (d := 0) h.2.1 ha hb hc he).le (by decide)) _ fun r M1 h1 => ?_
  refine ((s_MserversFor (d := 0) ha hb hc he).le (by decide)) _ fun v M2 h2 => ?_
  rcases h1 with ⟨n1, rfl, rfl⟩ | ⟨p1, f1, z1, g1⟩
  · rcases h2 with ⟨m1, rfl⟩ | ⟨o1, _⟩
    · exact ⟨h.slot, agr.er 0 rfl u2_same⟩
    · exact absurd o1 n1
  · rcases h2 with ⟨m1, rfl⟩ | ⟨o1, f2, g2⟩
    · exact absurd p1 m1
    · refine ⟨h.work f1 (by decide) f2 (by decide) z1 (by decide) (by decide) (by decide), ?_⟩
      rcases g1 with ⟨x, hx, rfl, y1, y2⟩ | ⟨rfl, y2⟩
      · rcases g2 with ⟨z, hz, rfl, t, w1, w2⟩ | ⟨t, w2⟩
        · have e : x = z := by
            rcases Nat.lt_trichotomy x z with q | q | q
            · exact absurd y1 (w2 x q)
            · exact q
            · exact absurd w1 (y2 z q)
          subst e
          exact agr.ok t
        · exact absurd y1 (w2 x hx)
      · rcases g2 with ⟨z, hz, rfl, t, w1, w2⟩ | ⟨t, w2⟩
        · exact absurd w1 (y2 z hz)
        · exact agr.er 1 rfl t
