/-! What one side keeps while the other works; the calls of the text. -/
theorem Fr.hi {l : List Nat} {M M' : Mem} (h : Fr l M M') (hl : allLo l = true) : ∀ a, 150 ≤ a → M' a = M a := fun a ha => h a fun q => by have := allLo_lt hl a q; omega
theorem RC.low {M M' : Mem} {n : Nat} {b : Int} {A : Nat → Nat → Int} (h : RC M n b A) (k : ∀ a, 150 ≤ a → M' a = M a) : RC M' n b A := by
  unfold RC at h ⊢
  rw [k 175 (by decide), k 154 (by decide)]
  exact h
theorem NR.low {M M' : Mem} {n : Nat} {C S : Nat → Int} {A : Nat → Nat → Int} (h : NR M n C S A) (k : ∀ a, 150 ≤ a → M' a = M a) : NR M' n C S A := by
  unfold NR at h ⊢
  rw [k 175 (by decide), k 155 (by decide), k 156 (by decide), k 157 (by decide)]
  exact h
theorem RE.low {M M' : Mem} {b a p : Int} {n : Nat} {L B P : Nat → Int} (h : RE M b a p n L B P) (k : ∀ a, 150 ≤ a → M' a = M a) : RE M' b a p n L B P := by
  unfold RE at h ⊢
  rw [k 175 (by decide), k 158 (by decide), k 159 (by decide), k 160 (by decide)]
  exact h
theorem RH.low {M M' : Mem} {u : Nat} {cnt : Nat → Int} {row : Nat → Nat → Int} (h : RH M u cnt row) (k : ∀ a, 150 ≤ a → M' a = M a) : RH M' u cnt row := by
  unfold RH at h ⊢
  rw [k 175 (by decide), k 152 (by decide), k 153 (by decide)]
  exact h
theorem FQ.low {M M' : Mem} {f : Nat} {q : Rat} (h : FQ M f q) (k : ∀ a, 150 ≤ a → M' a = M a) : FQ M' f q := h.off (k 163 (by decide)) (k 164 (by decide)) (k 165 (by decide))
/-- the reference's work leaves the class's cells -/
theorem FM.lo {cs ss fs : List Nat} {M M' : Mem} (h : FM cs ss fs M M') (hc : nin cs (List.range 150) = true) : ∀ a, a < 150 → M' a = M a := fun a ha => h.c1 hc a (List.mem_range.mpr ha) (by omega) (by omega) (by omega) (by omega)
theorem CF.hi {M M' : Mem} {q : Rat} (h : CF M q) (k : ∀ a, a < 150 → M' a = M a) : CF M' q := by
  unfold CF Big at h ⊢
  rw [k 0 (by decide), k (0 + 1) (by decide), k 2 (by decide), k (2 + 1) (by decide)]
  exact h
theorem CC.hi {M M' : Mem} {n : Nat} {b : Int} {A : Nat → Nat → Int} (h : CC M n b A) (k : ∀ a, a < 150 → M' a = M a) : CC M' n b A := by
  obtain ⟨h1, h2, h3⟩ := h
  refine ⟨by rw [k 130 (by decide)]; exact h1, by rw [k 130 (by decide)]; exact h2, fun i j hi hj => ?_⟩
  rw [k (118 + i) (by omega)]
  exact h3 i j hi hj
theorem NC.hi {M M' : Mem} {n : Nat} {C S : Nat → Int} {A : Nat → Nat → Int} (h : NC M n C S A) (k : ∀ a, a < 150 → M' a = M a) : NC M' n C S A := by
  obtain ⟨h1, h2, h3, h4⟩ := h
  refine ⟨by rw [k 142 (by decide)]; exact h1, by rw [k 132 (by decide)]; exact h2, by rw [k 133 (by decide)]; exact h3, fun i j hi hj => ?_⟩
  rw [k (134 + i) (by omega)]
  exact h4 i j hi hj
theorem CE.hi {M M' : Mem} {b a p : Int} {n : Nat} {L B P : Nat → Int} (h : CE M b a p n L B P) (k : ∀ a, a < 150 → M' a = M a) : CE M' b a p n L B P := by
  unfold CE at h ⊢
  rw [k 143 (by decide)]
  exact h
theorem CH.hi {M M' : Mem} {u : Nat} {cnt : Nat → Int} {row : Nat → Nat → Int} (h : CH M u cnt row) (k : ∀ a, a < 150 → M' a = M a) : CH M' u cnt row := h.fr (by rw [k 117 (by decide)]) (by rw [k 117 (by decide)]) (k 95 (by decide)) fun p hp => k _ (by omega)
theorem lineC.hi {M M' : Mem} {n : Nat} {J : Nat → Int} {a b c e : Int} (h : lineC M n J a b c e) (k : ∀ a, a < 150 → M' a = M a) : lineC M' n J a b c e := by
  unfold lineC RunC at h ⊢
  rw [k 54 (by decide), k (54 + 1) (by decide), k (54 + 2) (by decide), k (54 + 3) (by decide), k (54 + 4) (by decide), k 149 (by decide)]
  exact h
theorem freeC.hi {M M' : Mem} {n : Nat} {J : Nat → Int} (h : freeC M n J) (k : ∀ a, a < 150 → M' a = M a) : freeC M' n J := by
  unfold freeC at h ⊢
  rw [k 148 (by decide), k 149 (by decide)]
  exact h
theorem CF.q0 {M : Mem} {q : Rat} (h : CF M q) : 0 ≤ q := Rat.num_nonneg.mp h.1.nonneg
theorem vF.mk {M1 M2 : Mem} {q : Rat} (hc : CF M1 q) (k : ∀ a, a < 150 → M2 a = M1 a) (hq : FQ M2 80 q) : vF M2 := ⟨q, hc.q0, hc.hi k, hq⟩
/-- a measure: only the result and the workings have changed -/
theorem Iv.res {l cs ss fs : List Nat} {M M1 M2 : Mem} {q : Rat} (h : Iv M) (f1 : Fr l M M1) (hl : allLo l = true) (hz : AZ M1) (hc : CF M1 q) (f2 : FM cs ss fs M1 M2) (hq : FQ M2 80 q) (h1 : nin (l ++ cs) keepC = true) (h2 : nin ss keepS = true) (h3 : nin cs (List.range 150) = true) : Iv M2 :=
  h.fm (f1.join hl f2) h1 h2 (vF.mk hc (f2.lo h3) hq) (hz.low fun a ha => f2.lo h3 a (by omega))
/-- the same, where the net's row is told apart -/
theorem Iv.fmN {l ss fs : List Nat} {M M' : Mem} (h : Iv M) (f : FM l ss fs M M') (h1 : nin l (keepC.erase 142) = true) (h2 : nin ss keepS = true) (hF : vF M') (hZ : AZ M') (hN : vN M') : Iv M' := by
  obtain ⟨_, _, a, ⟨n, b, c⟩, e, _, k, m⟩ := h
  exact ⟨hF, hZ, a.fm f (nin_s h1 (by decide)) (nin_s h2 (by decide)), ⟨n, b.fm f (nin_s h1 (by decide)) (nin_s h2 (by decide)), c.fm f (nin_s h1 (by decide)) (nin_s h2 (by decide))⟩, e.fm f (nin_s h1 (by decide)) (nin_s h2 (by decide)), hN, k.fm f (nin_s h1 (by decide)) (nin_s h2 (by decide)), m.fm f (nin_s h1 (by decide))⟩
theorem Iv.resN {l cs ss fs : List Nat} {M M1 M2 : Mem} {q : Rat} {n : Nat} {C S : Nat → Int} {A : Nat → Nat → Int} (h : Iv M) (f1 : Fr l M M1) (hl : allLo l = true) (hz : AZ M1) (hc : CF M1 q) (f2 : FM cs ss fs M1 M2) (hq : FQ M2 80 q) (hO : nOk n C S A) (hN : NC M1 n C S A) (hR : NR M2 n C S A) (h1 : nin (l ++ cs) (keepC.erase 142) = true) (h2 : nin ss keepS = true) (h3 : nin cs (List.range 150) = true) : Iv M2 :=
  h.fmN (f1.join hl f2) h1 h2 (vF.mk hc (f2.lo h3) hq) (hz.low fun a ha => f2.lo h3 a (by omega)) ⟨n, C, S, A, hO, hN.hi (f2.lo h3), hR⟩
/-- a call that leaves the result -/
theorem Iv.work {l cs ss fs : List Nat} {M M1 M2 : Mem} (h : Iv M) (f1 : Fr l M M1) (hl : allLo l = true) (f2 : FM cs ss fs M1 M2) (h0 : 80 ∉ fs) (hz : AZ M1) (h1 : nin (l ++ cs) ([0, 1, 2, 3] ++ keepC) = true) (h2 : nin ss keepS = true) (h3 : nin cs (List.range 150) = true) : Iv M2 :=
  h.fm (f1.join hl f2) (nin_s h1 fun a ha => List.mem_append_right _ ha) h2 (h.1.fm (f1.join hl f2) (nin_s h1 fun a ha => List.mem_append_left _ ha) h0) (hz.low fun a ha => f2.lo h3 a (by omega))
/-- only the text has changed -/
theorem Iv.txt {l ss fs : List Nat} {M M' : Mem} (h : Iv M) (f : FM l ss fs M M') (h1 : nin l ((List.range 54 ++ keepC).filter fun a => !([91, 92, 93, 150].contains a)) = true) (h2 : nin ss (keepS.erase 2) = true) (h3 : 80 ∉ fs) (hT : vT M') : Iv M' := by
  obtain ⟨z, y, a, ⟨n, b, c⟩, e, g, k, m⟩ := h
  exact ⟨z.fm f (nin_s h1 (by decide)) h3, f.az y (nin_s h1 (by decide)), hT, ⟨n, b.fm f (nin_s h1 (by decide)) (nin_s h2 (by decide)), c.fm f (nin_s h1 (by decide)) (nin_s h2 (by decide))⟩, e.fm f (nin_s h1 (by decide)) (nin_s h2 (by decide)), g.fm f (nin_s h1 (by decide)) (nin_s h2 (by decide)), k.fm f (nin_s h1 (by decide)) (nin_s h2 (by decide)), m.fm f (nin_s h1 (by decide))⟩