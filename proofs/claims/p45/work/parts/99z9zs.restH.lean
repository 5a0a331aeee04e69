/-! The calls of envelopes and games; errors. -/
/-- only the envelope has changed -/
theorem Iv.env {l ss fs : List Nat} {M M' : Mem} (h : Iv M) (f : FM l ss fs M M') (h1 : nin l ((List.range 54 ++ keepC).filter fun a => !([143, 158, 159, 160].contains a)) = true) (h2 : nin ss [2, 6, 7, 8, 9, 10, 11, 16, 17, 18] = true) (h3 : 80 ∉ fs) (hE : vE M') : Iv M' := by
  obtain ⟨z, y, a, ⟨n, b, c⟩, e, g, _, m⟩ := h
  exact ⟨z.fm f (nin_s h1 (by decide)) h3, f.az y (nin_s h1 (by decide)), a.fm f (nin_s h1 (by decide)) (nin_s h2 (by decide)), ⟨n, b.fm f (nin_s h1 (by decide)) (nin_s h2 (by decide)), c.fm f (nin_s h1 (by decide)) (nin_s h2 (by decide))⟩, e.fm f (nin_s h1 (by decide)) (nin_s h2 (by decide)), g.fm f (nin_s h1 (by decide)) (nin_s h2 (by decide)), hE, m.fm f (nin_s h1 (by decide))⟩
/-- only the game has changed -/
theorem Iv.gam {l ss fs : List Nat} {M M' : Mem} (h : Iv M) (f : FM l ss fs M M') (h1 : nin l ((List.range 54 ++ keepC).filter fun a => !([144, 145, 161, 162].contains a)) = true) (h2 : nin ss keepS = true) (h3 : 80 ∉ fs) (hG : vG M') : Iv M' := by
  obtain ⟨z, y, a, ⟨n, b, c⟩, e, g, k, _⟩ := h
  exact ⟨z.fm f (nin_s h1 (by decide)) h3, f.az y (nin_s h1 (by decide)), a.fm f (nin_s h1 (by decide)) (nin_s h2 (by decide)), ⟨n, b.fm f (nin_s h1 (by decide)) (nin_s h2 (by decide)), c.fm f (nin_s h1 (by decide)) (nin_s h2 (by decide))⟩, e.fm f (nin_s h1 (by decide)) (nin_s h2 (by decide)), g.fm f (nin_s h1 (by decide)) (nin_s h2 (by decide)), k.fm f (nin_s h1 (by decide)) (nin_s h2 (by decide)), hG⟩
theorem eOk.more {b a p l sb sp : Int} {n : Nat} {L B P : Nat → Int} (h : eOk b a p n L B P) (hs : srvOk l sb sp) (h4 : n < 4) : eOk b a p (n + 1) (sr L n l) (sr B n sb) (sr P n sp) := by
  obtain ⟨h1, h2, h3, h5, h6⟩ := h
  refine ⟨h1, h2, h3, by omega, fun i hi => ?_⟩
  by_cases e : i = n
  · subst e
    rw [sr_same, sr_same, sr_same]
    exact hs
  · rw [sr_ne e, sr_ne e, sr_ne e]
    exact h6 i (by omega)