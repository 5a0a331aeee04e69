/-! The calls of envelopes and games; errors. -/
/-- only the envelope has changed -/
theorem Iv.env {l ss fs : List Nat} {M M' : Mem} (h : Iv M) (f : FM l ss fs M M') (h1 : nin l ((List.range 54 ++ keepC).filter fun a => !([143, 158, 159, 160].contains a)) = true) (h2 : nin ss [2, 6, 7, 8, 9, 10, 11, 16, 17, 18] = true) (h3 : 80 ∉ fs) (hE : vE M') : Iv M' := by
  obtain ⟨z, y, a, ⟨n, b, c⟩, e, g, _, m⟩ := h
  exact ⟨z.fm f (nin_s h1 (by decide)) h3, f.az y (nin_s h1 (by decide)), a.fm f (nin_s h1 (by decide)) (nin_s h2 (by decide)), ⟨n, b.fm f (nin_s h1 (by decide)) (nin_s h2 (by decide)), c.fm f (nin_s h1 (by decide)) (nin_s h2 (by decide))⟩, e.fm f (nin_s h1 (by decide)) (nin_s h2 (by decide)), g.fm f (nin_s h1 (by decide)) (nin_s h2 (by decide)), hE, m.fm f (nin_s h1 (by decide))⟩
/-- only the game has changed -/
theorem Iv.gam {l ss fs : List Nat} {M M' : Mem} (h : Iv M) (f : FM l ss fs M M') (h1 : nin l ((List.range 54 ++ keepC).filter fun a => !([144, 145, 161, 162].contains a)) = true) (h2 : nin ss keepS = true) (h3 : 80 ∉ fs) (hG : vG M') : Iv M' := by
  obtain ⟨z, y, a, ⟨n, b, c⟩, e, g, k, _⟩ := h
  exact ⟨z.fm f (nin_s h1 (by decide)) h3, f.az y (nin_s h1 (by decide)), a.fm f (nin_s h1 (by decide)) (nin_s h2 (by decide)), ⟨n, b.fm f (nin_s h1 (by decide)) (nin_s h2 (by decide)), c.fm f (nin_s h1 (by decide)) (nin_s h2 (by decide))⟩, e.fm f (nin_s h1 (by decide)) (nin_s h2 (by decide)), g.fm f (nin_s h1 (by decide)) (nin_s h2 (by decide)), k.fm f (nin_s h1 (by decide)) (nin_s h2 (by decide)), hG⟩
theorem eOk.more {b a p l sb sp : Int} {n : Nat} {L B P : Nat → Int} (h : eOk b a p n L B P) (hs : srvOk l sb sp) (h4 : n < 4) : eOk b a p (n + 1) (sr L n l) (sr B n sb) (sr P n sp) := by
  obtain ⟨h1, h2, h3, h5, h6⟩ := h
  refine ⟨h1, h2, h3, by omega, fun i hi => ?_⟩
  by_cases e : i = n
  · subst e
    rw [sr_same, sr_same, sr_same]
    exact hs
  · rw [sr_ne e, sr_ne e, sr_ne e]
    exact h6 i (by omega)
theorem h_envelope {b a p : Int} (hb : R32 b) (ha : R32 a) (hp : R32 p) : Hca cQ_envelope cM_envelope [2] [.inl b, .inl a, .inl p] := by
  intro M h
  obtain ⟨b0, a0, p0, n, L, B, P, hO, hC, hR⟩ := h.2.2.2.2.2.2.1
  refine ((s_Qenvelope (d := 0) hb ha hp).le (by decide)) _ fun r M1 h1 => ?_
  refine ((s_Menvelope (d := 0) hb ha hp).le (by decide)) _ fun v M2 h2 => ?_
  rcases h1 with ⟨n1, rfl, rfl⟩ | ⟨p1, rfl, f1, g⟩
  · rcases h2 with ⟨m1, rfl⟩ | ⟨o1, _⟩
    · exact ⟨h.slot, agr.er 0 rfl u2_same⟩
    · exact absurd o1 n1
  · rcases h2 with ⟨m1, rfl⟩ | ⟨o1, rfl, t, f2, g2⟩
    · exact absurd p1 m1
    · have f2' := f2.fm (by decide) (by decide) (by decide)
      have k2 := f2'.lo (by decide)
      have F := f1.join (by decide) f2'
      rw [hC.2.2.2.1, f1.hi (by decide) 175 (by decide), hR.2.2.2.1]
      exact ⟨h.env F (by decide) (by decide) (by simp) ⟨b, a, p, 0, _, _, _, ⟨p1.1, p1.2.1, p1.2.2, by omega, fun i hi => absurd hi (by omega)⟩, (g _ _ _).hi k2, g2⟩, agr.ok t⟩
theorem h_server {l sb sp : Int} (hl : R32 l) (hb : R32 sb) (hp : R32 sp) : Hca cQ_server cM_server [2, 3] [.inl l, .inl sb, .inl sp] := by
  intro M h
  obtain ⟨b0, a0, p0, n, L, B, P, hO, hC, hR⟩ := h.2.2.2.2.2.2.1
  refine ((s_Qserver (d := 0) hC hO hl hb hp).le (by decide)) _ fun r M1 h1 => ?_
  rcases h1 with ⟨n1, rfl, rfl⟩ | ⟨p1, n2, rfl, rfl⟩ | ⟨p1, p2, rfl, f1, g⟩
  · refine ((s_Mserver (d := 0) hR hO.2.2.2.1 hl hb hp).le (by decide)) _ fun v M2 h2 => ?_
    rcases h2 with ⟨m1, rfl⟩ | ⟨o1, m2, rfl⟩ | ⟨o1, _⟩
    · exact ⟨h.slot, agr.er 0 rfl u2_same⟩
    · exact absurd o1 n1
    · exact absurd o1 n1
  · refine ((s_Mserver (d := 0) hR hO.2.2.2.1 hl hb hp).le (by decide)) _ fun v M2 h2 => ?_
    rcases h2 with ⟨m1, rfl⟩ | ⟨o1, m2, rfl⟩ | ⟨o1, o2, _⟩
    · exact absurd p1 m1
    · exact ⟨h.slot, agr.er 1 rfl u2_same⟩
    · omega
  · refine ((s_Mserver (d := 0) (hR.low (f1.hi (by decide))) hO.2.2.2.1 hl hb hp).le (by decide)) _ fun v M2 h2 => ?_
    rcases h2 with ⟨m1, rfl⟩ | ⟨o1, m2, rfl⟩ | ⟨o1, o2, rfl, t, f2, g2⟩
    · exact absurd p1 m1
    · omega
    · have f2' := f2.fm (by decide) (by decide) (by decide)
      have k2 := f2'.lo (by decide)
      have F := f1.join (by decide) f2'
      exact ⟨h.env F (by decide) (by decide) (by simp) ⟨b0, a0, p0, n + 1, _, _, _, hO.more p1 p2, g.hi k2, g2⟩, agr.ok t⟩
theorem h_bound {k : Int} (hk : R32 k) : Hca cQ_bound cM_bound [5] [.inl k] := by
  intro M h
  obtain ⟨q0, _, hc0, _⟩ := h.1
  obtain ⟨b0, a0, p0, n, L, B, P, hO, hC, hR⟩ := h.2.2.2.2.2.2.1
  refine ((s_Qbound (d := 0) hC hO hk hc0).le (by decide)) _ fun r M1 h1 => ?_
  rcases h1 with ⟨n1, rfl, rfl⟩ | ⟨p1, f1, c1, rfl⟩
  · refine ((s_Mbound (d := 0) hR hO hk).le (by decide)) _ fun v M2 h2 => ?_
    rcases h2 with ⟨m1, rfl⟩ | ⟨o1, _⟩
    · exact ⟨h.slot, agr.er 0 rfl u2_same⟩
    · exact absurd o1 n1
  · refine ((s_Mbound (d := 0) (hR.low (f1.hi (by decide))) hO hk).le (by decide)) _ fun v M2 h2 => ?_
    rcases h2 with ⟨m1, rfl⟩ | ⟨o1, f2, t, c2, rfl⟩
    · exact absurd p1 m1
    · have z1 : AZ M1 := h.2.1.res f1 c1 fun r q1 q2 q3 => by simp at q3; omega
      exact ⟨h.res f1 (by decide) z1 c1 f2 c2 (by decide) (by decide) (by decide), agr.ok t⟩
theorem h_fits : Hca cQ_fits cM_fits [] [] := by
  intro M h
  obtain ⟨m, ⟨hV, c117, s6, e151, _⟩, _⟩ := h.2.2.2.1
  obtain ⟨b0, a0, p0, n, L, B, P, hO, hC, hR⟩ := h.2.2.2.2.2.2.1
  refine ((s_Qfits (d := 0) hC hO hV rfl c117).le (by decide)) _ fun r M1 h1 => ?_
  obtain ⟨rfl, h1⟩ := h1
  refine ((s_Mfits (d := 0) hR ⟨hO.1, hO.2.1, hO.2.2.1⟩ hV e151 s6).le (by decide)) _ fun v M2 h2 => ?_
  obtain ⟨rfl, h2⟩ := h2
  refine ⟨h.slot, ?_⟩
  rcases h1 with ⟨rfl, y⟩ | ⟨rfl, y⟩
  · rcases h2 with ⟨rfl, w⟩ | ⟨rfl, w⟩
    · exact agr.ok u2_same
    · exact absurd y w
  · rcases h2 with ⟨rfl, w⟩ | ⟨rfl, w⟩
    · exact absurd w y
    · exact agr.ok u2_same
theorem h_option {l c s : Int} (hl : R32 l) (hc : R32 c) (hs : R32 s) : Hca cQ_option cM_option [2] [.inl l, .inl c, .inl s] := by
  intro M h
  obtain ⟨hG, e1, e2⟩ := h.2.2.2.2.2.2.2
  refine ((s_Qoption (d := 0) hl hc hs).le (by decide)) _ fun r M1 h1 => ?_
  refine ((s_Moption (d := 0) hl hc hs).le (by decide)) _ fun v M2 h2 => ?_
  rcases h1 with ⟨n1, rfl, rfl⟩ | ⟨p1, rfl, e⟩
  · rcases h2 with ⟨m1, rfl⟩ | ⟨o1, _⟩
    · exact ⟨h.slot, agr.er 0 rfl u2_same⟩
    · exact absurd o1 n1
  · rcases h2 with ⟨m1, rfl⟩ | ⟨o1, rfl, g⟩
    · exact absurd p1 m1
    · have f1 : Fr [144, 145] M M1 := by rw [e]; exact (Fr.rfl'.u2 (by simp)).u2 (by simp)
      have f2 : FC [161, 162] [0] M1 M2 := by rw [g]; exact ((FC.rfl'.u2 (by simp) (by decide)).u2 (by simp) (by decide)).slot (by simp)
      have f2' := f2.fm (by decide) (by decide) (by decide)
      have k2 := f2'.lo (by decide)
      have F := f1.join (by decide) f2'
      have k1 := f1.hi (by decide)
      have x144 : M2 144 = sr (M 144) l.toNat c := by rw [k2 144 (by decide), e, u2_off (by decide), u2_row]
      have x145 : M2 145 = sr (M 145) l.toNat s := by rw [k2 145 (by decide), e, u2_row, u2_off (by decide)]
      have x161 : M2 161 = sr (M 144) l.toNat c := by rw [g, u2_off (by decide), u2_off (by decide), u2_row, k1 161 (by decide), e1]
      have x162 : M2 162 = sr (M 145) l.toNat s := by rw [g, u2_off (by decide), u2_row, u2_off (by decide), k1 162 (by decide), e2]
      have y161 : M1 161 l.toNat = M 144 l.toNat := by rw [k1 161 (by decide), e1]
      have t : M2 175 0 = 0 := by rw [g, u2_same]
      rw [y161]
      refine ⟨h.gam F (by decide) (by decide) (by simp) ⟨?_, by rw [x161, x144], by rw [x162, x145]⟩, agr.ok t⟩
      rw [x144, x145]
      intro i hi
      have hi' := hG i hi
      by_cases q : i = l.toNat
      · subst q
        rw [sr_same, sr_same]
        exact p1.2
      · rw [sr_ne q, sr_ne q]
        exact hi'
theorem h_split {p l b : Int} (hp : R32 p) (hl : R32 l) (hb : R32 b) : Hca cQ_split cM_split [2] [.inl p, .inl l, .inl b] := by
  intro M h
  obtain ⟨hG, e1, e2⟩ := h.2.2.2.2.2.2.2
  refine ((s_Qsplit (d := 0) hG rfl rfl hp hl hb).le (by decide)) _ fun r M1 h1 => ?_
  obtain ⟨f1, h1⟩ := h1
  have k1 := f1.hi (by decide)
  refine ((s_Msplit (d := 0) (M := M1) hG (by rw [k1 161 (by decide)]; exact e1) (by rw [k1 162 (by decide)]; exact e2) hp hl hb).le (by decide)) _ fun v M2 h2 => ?_
  obtain ⟨f2, h2⟩ := h2
  have f2' := f2.fm (by decide) (by decide) (by decide)
  have F := f1.join (by decide) f2'
  refine ⟨h.same F (by decide) (by decide) (by simp), ?_⟩
  rcases h1 with ⟨n1, rfl⟩ | ⟨p1, rfl⟩
  · rcases h2 with ⟨m1, t⟩ | ⟨o1, _⟩
    · exact agr.er 0 rfl t
    · exact absurd o1 n1
  · rcases h2 with ⟨m1, t⟩ | ⟨o1, t, rfl⟩
    · exact absurd p1 m1
    · exact agr.ok t
theorem h_price {p : Int} (hp : R32 p) : Hca cQ_price cM_price [2] [.inl p] := by
  intro M h
  obtain ⟨q0, _, hc0, _⟩ := h.1
  obtain ⟨hG, e1, e2⟩ := h.2.2.2.2.2.2.2
  refine ((s_Qprice (d := 0) hG rfl rfl hp hc0).le (by decide)) _ fun r M1 h1 => ?_
  rcases h1 with ⟨n1, rfl, rfl⟩ | ⟨p1, f1, c1, rfl⟩
  · refine ((s_Mprice (d := 0) hG e1 e2 hp).le (by decide)) _ fun v M2 h2 => ?_
    rcases h2 with ⟨m1, rfl⟩ | ⟨o1, _⟩
    · exact ⟨h.slot, agr.er 0 rfl u2_same⟩
    · exact absurd o1 n1
  · have k1 := f1.hi (by decide)
    refine ((s_Mprice (d := 0) (M := M1) hG (by rw [k1 161 (by decide)]; exact e1) (by rw [k1 162 (by decide)]; exact e2) hp).le (by decide)) _ fun v M2 h2 => ?_
    rcases h2 with ⟨m1, rfl⟩ | ⟨o1, f2, t, c2, rfl⟩
    · exact absurd p1 m1
    · have z1 : AZ M1 := h.2.1.res f1 c1 fun r q1 q2 q3 => by simp at q3; omega
      exact ⟨h.res f1 (by decide) z1 c1 f2 c2 (by decide) (by decide) (by decide), agr.ok t⟩
theorem h_errors : Hca cQ_errors cM_errors [] [] := by
  intro M h
  obtain ⟨n, hJ, a, b, c, e, g, s8, s9, s10, s11, hF⟩ := h.2.2.2.1
  obtain ⟨cn, cb, cA, cO, hCC, hRC⟩ := h.2.2.2.2.1
  obtain ⟨k, C, S, A, nO, hNC, hNR⟩ := h.2.2.2.2.2.1
  obtain ⟨b0, a0, p0, m, L, B, P, eO, hCE, hRE⟩ := h.2.2.2.2.2.2.1
  obtain ⟨hG, e1, e2⟩ := h.2.2.2.2.2.2.2
  have hJ' := hJ
  obtain ⟨hV, c117, s6, e151, _⟩ := hJ
  refine (s_Qerrors (d := 0) hV c117 rfl g hF hCC cO hNC nO h.2.1 hCE eO hG rfl rfl) _ fun r M1 h1 => ?_
  obtain ⟨f1, g6, gl, gF, z1, v1⟩ := h1
  have k1 := f1.hi (by decide)
  have e175 := k1 175 (by decide)
  refine (s_Merrors (d := 0) (M := M1) (J := M 94) hV (by rw [e175]; exact s6) (by rw [k1 151 (by decide)]; exact e151) (by rw [e175]; exact s8) (by rw [e175]; exact s9) (by rw [e175]; exact s10) (by rw [e175]; exact s11) g.2.2.2.2.1 (hRC.low k1) cO (hNR.low k1) nO (hRE.low k1) ⟨eO.1, eO.2.1, eO.2.2.1⟩ hG (by rw [k1 161 (by decide)]; exact e1) (by rw [k1 162 (by decide)]; exact e2)) _ fun v M2 h2 => ?_
  obtain ⟨f2, t, v2⟩ := h2
  have q := v1.uniq v2
  subst q
  have k2 := f2.lo (by decide)
  have F := f1.join (by decide) f2
  refine ⟨h.pla hJ' F (by decide) (by decide) (h.1.fm F (by decide) (by decide)) (z1.low fun a ha => k2 a (by omega)) ⟨a, b, c, e, ?_, ?_, ?_, ?_, ?_, ?_⟩, agr.ok t⟩
  · rw [k2 94 (by decide), f1 94 (by decide)]
    exact gl.hi k2
  · rw [f2.2.1 8 (by simp), e175]; exact s8
  · rw [f2.2.1 9 (by simp), e175]; exact s9
  · rw [f2.2.1 10 (by simp), e175]; exact s10
  · rw [f2.2.1 11 (by simp), e175]; exact s11
  · rw [k2 94 (by decide), f1 94 (by decide)]
    exact gF.hi k2
