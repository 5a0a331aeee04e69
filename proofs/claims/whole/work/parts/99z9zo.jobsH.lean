/-! The calls that change the jobs: come, clear, undo, read. -/
theorem add4_lo {f : Nat → Int} {n : Nat} {a b c e : Int} {i : Nat} (h : i < 4 * n) : add4 f n a b c e i = f i := by
  unfold add4
  rw [sr_ne (by omega), sr_ne (by omega), sr_ne (by omega), sr_ne (by omega)]
theorem add4_at {f : Nat → Int} {n : Nat} {a b c e : Int} : add4 f n a b c e (4 * n) = a ∧ add4 f n a b c e (4 * n + 1) = b ∧ add4 f n a b c e (4 * n + 2) = c ∧ add4 f n a b c e (4 * n + 3) = e := by
  unfold add4
  refine ⟨by rw [sr_ne (by omega), sr_ne (by omega), sr_ne (by omega), sr_same], by rw [sr_ne (by omega), sr_ne (by omega), sr_same], by rw [sr_ne (by omega), sr_same], by rw [sr_same]⟩
theorem VJ.add {n : Nat} {f : Nat → Int} {a b c e : Int} (h : VJ n f) (hj : jobOk a b c e) (hc : comeOk n f a) : VJ (n + 1) (add4 f n a b c e) := by
  obtain ⟨h1, h2, h3⟩ := h
  obtain ⟨g1, g2⟩ := hc
  refine ⟨by omega, fun k hk => ?_, fun k hk => ?_⟩
  · by_cases q : k = n
    · subst q
      obtain ⟨p1, p2, p3, p4⟩ := add4_at (f := f) (n := k) (a := a) (b := b) (c := c) (e := e)
      rw [p1, p2, p3, p4]
      exact hj
    · rw [add4_lo (by omega), add4_lo (by omega), add4_lo (by omega), add4_lo (by omega)]
      exact h2 k (by omega)
  · by_cases q : k + 1 = n
    · rw [add4_lo (by omega), q, add4_at.1]
      rcases g2 with z | z
      · omega
      · have : n - 1 = k := by omega
        rw [this] at z
        exact z
    · rw [add4_lo (by omega), add4_lo (by omega)]
      exact h3 k (by omega)
theorem VJ.told {n : Nat} {f : Nat → Int} {T : Nat → Int} : ∀ c, VJ n f → allOk T c → inOrder (if n = 0 then 0 else f (4 * (n - 1))) T c → n + c ≤ 24 → VJ (n + c) (addT f n T c) ∧ (0 < c → addT f n T c (4 * (n + c - 1)) = T (4 * (c - 1)))
  | 0, h, _, _, _ => ⟨h, fun z => absurd z (by omega)⟩
  | c + 1, h, ha, ho, h24 => by
    obtain ⟨i1, i2⟩ := VJ.told c h (fun k hk => ha k (by omega)) (fun k hk => ho k (by omega)) (by omega)
    have hc := ho c (by omega)
    refine ⟨i1.add (ha c (by omega)) ⟨by omega, ?_⟩, fun _ => ?_⟩
    · by_cases e : c = 0
      · subst e
        rw [if_pos rfl] at hc
        by_cases e0 : n = 0
        · exact Or.inl (by omega)
        · rw [if_neg e0] at hc
          exact Or.inr hc
      · rw [if_neg e] at hc
        rw [i2 (by omega)]
        exact Or.inr hc
    · show add4 (addT f n T c) (n + c) _ _ _ _ _ = _
      rw [show n + (c + 1) - 1 = n + c by omega, add4_at.1]
      rfl
theorem vH_more {n u : Nat} {J : Nat → Int} {cnt : Nat → Int} {row : Nat → Nat → Int} (hV : VJ n J) (hu : u ≤ 20) (h : ∀ k, k < u → ∃ m : Nat, cnt k = m ∧ VJ m (row k)) : ∀ k, k < hlen u → ∃ m : Nat, hcnt u cnt (n : Int) k = m ∧ VJ m (hcnt u row J k) := fun k hk => by
  unfold hlen at hk
  unfold hcnt
  by_cases e : u = 20
  · rw [if_pos e] at hk
    simp only [if_pos e]
    by_cases q : k = 19
    · simp only [if_pos q]; exact ⟨n, rfl, hV⟩
    · simp only [if_neg q]; exact h (k + 1) (by omega)
  · rw [if_neg e] at hk
    simp only [if_neg e]
    by_cases q : k = u
    · simp only [if_pos q]; exact ⟨n, rfl, hV⟩
    · simp only [if_neg q]; exact h k (by omega)
theorem vL.np {M M' : Mem} {n m : Nat} (h : vL M n) (k : M' 54 = M 54) (s : ∀ t, t ∈ [8, 9, 10, 11] → M' 175 t = M 175 t) (hp : NoPlay M') : vL M' m := by
  obtain ⟨a, b, c, e, ⟨g1, g2, g3, g4, g5, _⟩, s8, s9, s10, s11, _⟩ := h
  refine ⟨a, b, c, e, ⟨by rw [k]; exact g1, by rw [k]; exact g2, by rw [k]; exact g3, by rw [k]; exact g4, g5, Or.inl hp.1⟩, by rw [s 8 (by decide)]; exact s8, by rw [s 9 (by decide)]; exact s9, by rw [s 10 (by decide)]; exact s10, by rw [s 11 (by decide)]; exact s11, fun r hr => Or.inl (hp.2 r hr), fun z => absurd (hp.2 0 (by decide)) z⟩
/-- only the jobs and the plays (and perhaps the text) have changed -/
theorem Iv.job {l ss fs : List Nat} {M M' : Mem} {n m : Nat} (h : Iv M) (f : FM l ss fs M M') (h1 : nin l ((List.range 54 ++ keepC).filter fun a => !((jC ++ [91, 92, 93, 148, 149, 150]).contains a)) = true) (h2 : nin ss [8, 9, 10, 11, 16, 17, 18, 24, 25, 26, 27] = true) (h3 : 80 ∉ fs) (hT : vT M') (hL : vL M n) (hp : NoPlay M') (hJ : vJ M' m) : Iv M' := by
  obtain ⟨z, y, _, _, e, g, k, q⟩ := h
  exact ⟨z.fm f (nin_s h1 (by decide)) h3, f.az y (nin_s h1 (by decide)), hT, ⟨m, hJ, hL.np (f.c1 (k := [54]) (nin_s h1 (by decide)) 54 (by decide) (by decide) (by decide) (by decide) (by decide)) (f.s1 (nin_s h2 (by decide))) hp⟩, e.fm f (nin_s h1 (by decide)) (nin_s h2 (by decide)), g.fm f (nin_s h1 (by decide)) (nin_s h2 (by decide)), k.fm f (nin_s h1 (by decide)) (nin_s h2 (by decide)), q.fm f (nin_s h1 (by decide))⟩
theorem NoPlay.hi {M M' : Mem} (h : NoPlay M) (k : ∀ a, a < 150 → M' a = M a) : NoPlay M' := by
  unfold NoPlay at h ⊢
  rw [k 149 (by decide), k 148 (by decide)]
  exact h
theorem h_come {a b c e : Int} (ha : R32 a) (hb : R32 b) (hc : R32 c) (he : R32 e) : Hca cQ_come cM_come [2, 3] [.inl a, .inl b, .inl c, .inl e] := by
  intro M h
  obtain ⟨n, ⟨hV, c117, s6, e151, u, cnt, row, hC, hR, hrow⟩, hL⟩ := h.2.2.2.1
  have hV' : VJ n (M 151) := by rw [e151]; exact hV
  refine ((s_Qcome (d := 0) hC c117 hV ha hb hc he).le (by decide)) _ fun r M1 h1 => ?_
  rcases h1 with ⟨n1, rfl, rfl⟩ | ⟨p1, n2, rfl, rfl⟩ | ⟨p1, p2, f1, rfl, g0, g94, _, np, k⟩
  · refine ((s_Mcome (d := 0) hR s6 hV' ha hb hc he).le (by decide)) _ fun v M2 h2 => ?_
    rcases h2 with ⟨m1, rfl⟩ | ⟨o1, m2, rfl⟩ | ⟨o1, _⟩
    · exact ⟨h.slot, agr.er 0 rfl u2_same⟩
    · exact absurd o1 n1
    · exact absurd o1 n1
  · refine ((s_Mcome (d := 0) hR s6 hV' ha hb hc he).le (by decide)) _ fun v M2 h2 => ?_
    rw [e151] at h2
    rcases h2 with ⟨m1, rfl⟩ | ⟨o1, m2, rfl⟩ | ⟨o1, o2, _⟩
    · exact absurd p1 m1
    · exact ⟨h.slot, agr.er 1 rfl u2_same⟩
    · exact absurd o2 n2
  · have k1 := f1.hi (by decide)
    have x151 : M1 151 = M 94 := by rw [k1 151 (by decide), e151]
    refine ((s_Mcome (d := 0) (hR.low k1) (by rw [k1 175 (by decide)]; exact s6) (by rw [x151]; exact hV) ha hb hc he).le (by decide)) _ fun v M2 h2 => ?_
    rw [x151] at h2
    rcases h2 with ⟨m1, rfl⟩ | ⟨o1, m2, rfl⟩ | ⟨_, _, f2, rfl, t0, t6, g151, kr⟩
    · exact absurd p1 m1
    · exact absurd p2 m2
    · have f2' := f2.fm (by decide) (by decide) (by decide)
      have k2 := f2'.lo (by decide)
      have F := f1.join (by decide) f2'
      refine ⟨h.job F (by decide) (by decide) (by simp) (h.2.2.1.fm F (by decide) (by decide)) hL (np.hi k2) (m := n + 1) ⟨?_, ?_, t6, ?_, hlen u, hcnt u cnt (n : Int), hcnt u row (M 94), k.hi k2, kr, vH_more hV hC.1 hrow⟩, agr.ok t0⟩
      · rw [k2 94 (by decide), g94]; exact hV.add p1 p2
      · rw [k2 117 (by decide)]; exact g0
      · rw [g151, k2 94 (by decide), g94]
theorem h_clear : Hca cQ_clear cM_clear [] [] := by
  intro M h
  obtain ⟨n, ⟨hV, c117, s6, e151, u, cnt, row, hC, hR, hrow⟩, hL⟩ := h.2.2.2.1
  refine ((s_Qclear (d := 0) hC).le (by decide)) _ fun r M1 h1 => ?_
  obtain ⟨f1, g94, rfl, g0, _, np, k⟩ := h1
  have k1 := f1.hi (by decide)
  have x151 : M1 151 = M 94 := by rw [k1 151 (by decide), e151]
  have x6 : M1 175 6 = n := by rw [k1 175 (by decide)]; exact s6
  refine ((s_Mclear (d := 0) (hR.low k1)).le (by decide)) _ fun v M2 h2 => ?_
  rw [x151, x6] at h2
  rw [c117] at k ⊢
  obtain ⟨f2, rfl, t0, t6, kr⟩ := h2
  have f2' := f2.fm (by decide) (by decide) (by decide)
  have k2 := f2'.lo (by decide)
  have F := f1.join (by decide) f2'
  refine ⟨h.job F (by decide) (by decide) (by simp) (h.2.2.1.fm F (by decide) (by decide)) hL (np.hi k2) (m := 0) ⟨⟨by omega, fun k hk => absurd hk (by omega), fun k hk => absurd hk (by omega)⟩, ?_, t6, ?_, hlen u, hcnt u cnt (n : Int), hcnt u row (M 94), k.hi k2, kr, vH_more hV hC.1 hrow⟩, agr.ok t0⟩
  · rw [k2 117 (by decide)]; exact g0
  · rw [f2.1 151 (by decide) (by decide), x151, k2 94 (by decide), g94]
theorem h_undo : Hca cQ_undo cM_undo [5] [] := by
  intro M h
  obtain ⟨n, ⟨hV, c117, s6, e151, u, cnt, row, hC, hR, hrow⟩, hL⟩ := h.2.2.2.1
  refine ((s_Qundo' (d := 0) hC).le (by decide)) _ fun r M1 h1 => ?_
  rcases h1 with ⟨rfl, rfl, rfl⟩ | ⟨hu, f1, rfl, g0, g94, _, np, k⟩
  · refine ((s_Mundo' (d := 0) hR).le (by decide)) _ fun v M2 h2 => ?_
    have := h2.1 rfl
    subst this
    exact ⟨h.slot, agr.er 0 rfl u2_same⟩
  · have k1 := f1.hi (by decide)
    refine ((s_Mundo' (d := 0) (hR.low k1)).le (by decide)) _ fun v M2 h2 => ?_
    obtain ⟨f2, rfl, t0, t6, g151, kr⟩ := h2.2 hu
    have f2' := f2.fm (by decide) (by decide) (by decide)
    have k2 := f2'.lo (by decide)
    have F := f1.join (by decide) f2'
    obtain ⟨m, hm, hVm⟩ := hrow (u - 1) (by omega)
    refine ⟨h.job F (by decide) (by decide) (by simp) (h.2.2.1.fm F (by decide) (by decide)) hL (np.hi k2) (m := m) ⟨?_, ?_, by rw [t6, hm], ?_, u - 1, cnt, row, k.hi k2, kr, fun k hk => hrow k (by omega)⟩, agr.ok t0⟩
    · rw [k2 94 (by decide)]
      exact hVm.congr fun i hi => by have := hVm.1; rw [g94, if_pos (by omega)]
    · rw [k2 117 (by decide), g0, hm]
    · rw [k2 94 (by decide)]
      funext i
      rw [g151, g94, k1 151 (by decide), e151]
theorem h_read : Hca cQ_read cM_read [2, 3] [] := by
  intro M h
  obtain ⟨N, hT, e150, s2, h92⟩ := h.2.2.1
  obtain ⟨n, ⟨hV, c117, s6, e151, u, cnt, row, hC, hR, hrow⟩, hL⟩ := h.2.2.2.1
  refine ((s_Qread (d := 0) hT hC c117 hV h92).le (by decide)) _ fun r M1 h1 => ?_
  obtain ⟨y, hy, f1, e93, e92, h1⟩ := h1
  have k1 := f1.hi (by decide)
  have x151 : M1 151 = M 94 := by rw [k1 151 (by decide), e151]
  have TR1 : TR (M1 150) N := ⟨hT.2.1, by rw [k1 150 (by decide), e150]; exact hT.2.2⟩
  refine ((s_Mread (d := 0) TR1 (by rw [k1 175 (by decide)]; exact s2) (hR.low k1) (by rw [k1 175 (by decide)]; exact s6) (by rw [x151]; exact hV) (M 92) h92).le (by decide)) _ fun v M2 h2 => ?_
  obtain ⟨z, hz, f2, h2⟩ := h2
  rw [k1 150 (by decide), e150] at hz
  have e := pRun_uniq hy hz
  subst e
  rw [x151] at h2
  have f2' := f2.fm (by decide) (by decide) (by decide)
  have k2 := f2'.lo (by decide)
  have F := f1.join (by decide) f2'
  have hT2 : vT M2 := by
    refine ⟨N, ⟨?_, hT.2.1, ?_⟩, ?_, ?_, ?_⟩
    · rw [k2 93 (by decide), e93]; exact hT.1
    · rw [k2 91 (by decide), f1 91 (by decide)]; exact hT.2.2
    · rw [f2.1 150 (by decide) (by decide), k1 150 (by decide), k2 91 (by decide), f1 91 (by decide)]; exact e150
    · rw [f2.2 2 (by simp), k1 175 (by decide)]; exact s2
    · rw [k2 92 (by decide), e92]; exact (pRun_ok hy h92).2.1
  have small : Fr [92, 93] M M1 → FC [166] [0, 31, 32] M1 M2 → Iv M2 := fun g1 g2 => h.txt (g1.join (by decide) (g2.fm (by decide) (by decide) (by decide))) (by decide) (by decide) (by simp) hT2
  rcases h1 with ⟨n1, rfl, g1⟩ | ⟨p1, n2, rfl, g1⟩ | ⟨p1, p2, rfl, g94, g0, _, np, k⟩
  · rcases h2 with ⟨m1, t, g2⟩ | ⟨o1, m2, t, g2⟩ | ⟨o1, _⟩
    · exact ⟨small g1 g2, agr.er 0 rfl t⟩
    · exact absurd o1 n1
    · exact absurd o1 n1
  · rcases h2 with ⟨m1, t, g2⟩ | ⟨o1, m2, t, g2⟩ | ⟨o1, o2, _⟩
    · exact absurd p1 m1
    · exact ⟨small g1 g2, agr.er 1 rfl t⟩
    · exact absurd o2 n2
  · rcases h2 with ⟨m1, t, g2⟩ | ⟨o1, m2, t, g2⟩ | ⟨_, _, rfl, t0, g151, t6, kr⟩
    · exact absurd p1 m1
    · exact absurd p2 m2
    · refine ⟨h.job F (by decide) (by decide) (by simp) hT2 hL (np.hi k2) (m := n + y.2.2.1) ⟨?_, ?_, t6, ?_, hlen u, hcnt u cnt (n : Int), hcnt u row (M 94), k.hi k2, kr, vH_more hV hC.1 hrow⟩, agr.ok t0⟩
      · rw [k2 94 (by decide), g94]; exact (hV.told _ p1.2 p2.1 p2.2).1
      · rw [k2 117 (by decide)]; exact g0
      · rw [g151, k2 94 (by decide), g94]
