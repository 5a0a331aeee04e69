/-! The calls of the line: line, jobAt, numberAt, meanTime, sumTimes. -/
/-- the jobs stand, the plays may have changed -/
theorem Iv.pla {l ss fs : List Nat} {M M' : Mem} {n : Nat} (h : Iv M) (hJ : vJ M n) (f : FM l ss fs M M') (h1 : nin l (keepC.filter fun a => !([54, 55, 56, 57, 58, 148, 149].contains a)) = true) (h2 : nin ss [2, 6, 7, 16, 17, 18, 24, 25, 26, 27] = true) (hF : vF M') (hZ : AZ M') (hL : vL M' n) : Iv M' := by
  obtain ⟨_, _, a, _, e, g, k, m⟩ := h
  exact ⟨hF, hZ, a.fm f (nin_s h1 (by decide)) (nin_s h2 (by decide)), ⟨n, hJ.fm f (nin_s h1 (by decide)) (nin_s h2 (by decide)), hL⟩, e.fm f (nin_s h1 (by decide)) (nin_s h2 (by decide)), g.fm f (nin_s h1 (by decide)) (nin_s h2 (by decide)), k.fm f (nin_s h1 (by decide)) (nin_s h2 (by decide)), m.fm f (nin_s h1 (by decide))⟩
theorem Iv.lin {M M1 M2 : Mem} {n : Nat} {a b c e : Int} (h : Iv M) (hJ : vJ M n) (s8 : M 175 8 = a) (s9 : M 175 9 = b) (s10 : M 175 10 = c) (s11 : M 175 11 = e) (hF : freeC M n (M 94)) (f1 : lineFr M M1 n (M 94) a b c e) (f2 : FC rcs [0, 40, 41, 42] M1 M2) : Iv M2 := by
  obtain ⟨f1, g6, gl⟩ := f1
  have k1 := f1.hi (by decide)
  have f2' := f2.fm (by decide) (by decide) (by decide)
  have k2 := f2'.lo (by decide)
  have F := f1.join (by decide) f2'
  refine h.pla hJ F (by decide) (by decide) (h.1.fm F (by decide) (by simp)) (F.az h.2.1 (by decide)) ⟨a, b, c, e, ?_, ?_, ?_, ?_, ?_, ?_⟩
  · rw [k2 94 (by decide), f1 94 (by decide)]
    exact gl.hi k2
  · rw [f2.2 8 (by simp), k1 175 (by decide)]; exact s8
  · rw [f2.2 9 (by simp), k1 175 (by decide)]; exact s9
  · rw [f2.2 10 (by simp), k1 175 (by decide)]; exact s10
  · rw [f2.2 11 (by simp), k1 175 (by decide)]; exact s11
  · rw [k2 94 (by decide), f1 94 (by decide)]
    exact (hF.kept f1 (by decide) (g6 6 (by decide))).hi k2