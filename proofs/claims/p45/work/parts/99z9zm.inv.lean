/-! What holds between the calls: both sides hold the same values. -/
def nin (l k : List Nat) : Bool := k.all fun a => !(l.contains a)
theorem nin_out {l k : List Nat} (h : nin l k = true) : ∀ a, a ∈ k → a ∉ l := fun a ha hm => by
  have h1 := (List.all_eq_true.mp h) a ha
  simp at h1
  exact h1 hm
/-- all of these lie with the class -/
def allLo (l : List Nat) : Bool := l.all fun a => decide (a < 150)
theorem allLo_lt {l : List Nat} (h : allLo l = true) : ∀ a, a ∈ l → a < 150 := fun a ha => by
  have h1 := (List.all_eq_true.mp h) a ha
  simpa using h1
theorem Fr.low {l : List Nat} {M M' : Mem} (h : Fr l M M') (hl : allLo l = true) : FM l [] [] M M' := by
  have k : ∀ a, 150 ≤ a → M' a = M a := fun a ha => h a fun q => by have := allLo_lt hl a q; omega
  exact ⟨fun a _ _ _ _ q => h a q, fun s _ => by rw [k 175 (by decide)], fun f _ _ q hq => hq.off (k 163 (by decide)) (k 164 (by decide)) (k 165 (by decide))⟩
theorem Fr.join {l cs ss fs : List Nat} {M M1 M2 : Mem} (h : Fr l M M1) (hl : allLo l = true) (g : FM cs ss fs M1 M2) : FM (l ++ cs) ss fs M M2 :=
  ((h.low hl).mono (fun a ha => List.mem_append_left _ ha) (by simp) (by simp)).tr (g.mono (fun a ha => List.mem_append_right _ ha) (fun _ q => q) fun _ q => q)
def vF (M : Mem) : Prop := ∃ q : Rat, 0 ≤ q ∧ CF M q ∧ FQ M 80 q
def vT (M : Mem) : Prop := ∃ N : Nat, TP M N ∧ M 150 = M 91 ∧ M 175 2 = N ∧ ∀ i, R32 (M 92 i)
def vH (M : Mem) : Prop := ∃ u cnt row, CH M u cnt row ∧ RH M u cnt row ∧ ∀ k, k < u → ∃ m : Nat, cnt k = m ∧ VJ m (row k)
def vJ (M : Mem) (n : Nat) : Prop := VJ n (M 94) ∧ M 117 0 = n ∧ M 175 6 = n ∧ M 151 = M 94 ∧ vH M
def vL (M : Mem) (n : Nat) : Prop := ∃ a b c e, lineC M n (M 94) a b c e ∧ M 175 8 = a ∧ M 175 9 = b ∧ M 175 10 = c ∧ M 175 11 = e ∧ freeC M n (M 94)
def vC (M : Mem) : Prop := ∃ n b A, cOk n b A ∧ CC M n b A ∧ RC M n b A
def vN (M : Mem) : Prop := ∃ n C S A, nOk n C S A ∧ NC M n C S A ∧ NR M n C S A
def vE (M : Mem) : Prop := ∃ b a p n L B P, eOk b a p n L B P ∧ CE M b a p n L B P ∧ RE M b a p n L B P
def vG (M : Mem) : Prop := gOk (M 144) (M 145) ∧ M 161 = M 144 ∧ M 162 = M 145
def Iv (M : Mem) : Prop := vF M ∧ AZ M ∧ vT M ∧ (∃ n, vJ M n ∧ vL M n) ∧ vC M ∧ vN M ∧ vE M ∧ vG M
theorem FM.c1 {l ss fs : List Nat} {M M' : Mem} (h : FM l ss fs M M') {k : List Nat} (hk : nin l k = true) (a : Nat) (ha : a ∈ k) (h3 : a ≠ 163) (h4 : a ≠ 164) (h5 : a ≠ 165) (h7 : a ≠ 175) : M' a = M a := h.1 a h3 h4 h5 h7 (nin_out hk a ha)
theorem FM.s1 {l ss fs : List Nat} {M M' : Mem} (h : FM l ss fs M M') {k : List Nat} (hk : nin ss k = true) (s : Nat) (ha : s ∈ k) : M' 175 s = M 175 s := h.2.1 s (nin_out hk s ha)
theorem vF.fm {l ss fs : List Nat} {M M' : Mem} (h : vF M) (f : FM l ss fs M M') (h1 : nin l [0, 1, 2, 3] = true) (h2 : 80 ∉ fs) : vF M' := by
  obtain ⟨q, h0, ⟨c1, c2⟩, g⟩ := h
  have k : ∀ a, a ∈ [0, 1, 2, 3] → M' a = M a := fun a ha => f.c1 h1 a ha (by simp at ha; omega) (by simp at ha; omega) (by simp at ha; omega) (by simp at ha; omega)
  refine ⟨q, h0, ⟨?_, ?_⟩, g.keptM f (by decide) h2⟩
  · unfold Big at c1 ⊢
    rw [k 0 (by decide), k (0 + 1) (by decide)]
    exact c1
  · unfold Big at c2 ⊢
    rw [k 2 (by decide), k (2 + 1) (by decide)]
    exact c2
theorem AZ.low {M M' : Mem} (h : AZ M) (k : ∀ a, a < 54 → M' a = M a) : AZ M' := fun r hr i hi => by
  have := h r hr i hi
  rw [k (r + 1) (by have h1 := hr.1; have h2 := hr.2; omega)]
  exact this
theorem vT.fm {l ss fs : List Nat} {M M' : Mem} (h : vT M) (f : FM l ss fs M M') (h1 : nin l [91, 92, 93, 150] = true) (h2 : nin ss [2] = true) : vT M' := by
  obtain ⟨N, a, b, c, e⟩ := h
  have k : ∀ a, a ∈ [91, 92, 93, 150] → M' a = M a := fun a ha => f.c1 h1 a ha (by simp at ha; omega) (by simp at ha; omega) (by simp at ha; omega) (by simp at ha; omega)
  refine ⟨N, a.fr (k 91 (by decide)) (by rw [k 93 (by decide)]), by rw [k 150 (by decide), k 91 (by decide)]; exact b, by rw [f.s1 h2 2 (by decide)]; exact c, by rw [k 92 (by decide)]; exact e⟩
abbrev jC : List Nat := [94, 95, 96, 97, 98, 99, 100, 101, 102, 103, 104, 105, 106, 107, 108, 109, 110, 111, 112, 113, 114, 115, 117, 151, 152, 153]
theorem jC_out {a : Nat} (h : a ∈ jC) : a ≠ 163 ∧ a ≠ 164 ∧ a ≠ 165 ∧ a ≠ 175 := by
  have : ∀ a ∈ jC, a ≠ 163 ∧ a ≠ 164 ∧ a ≠ 165 ∧ a ≠ 175 := by decide
  exact this a h
theorem vJ.fm {l ss fs : List Nat} {M M' : Mem} {n : Nat} (h : vJ M n) (f : FM l ss fs M M') (h1 : nin l jC = true) (h2 : nin ss [6, 7] = true) : vJ M' n := by
  obtain ⟨a, b, c, e, u, cnt, row, g1, g2, g3⟩ := h
  have k : ∀ a, a ∈ jC → M' a = M a := fun a ha => f.c1 h1 a ha (jC_out ha).1 (jC_out ha).2.1 (jC_out ha).2.2.1 (jC_out ha).2.2.2
  refine ⟨by rw [k 94 (by decide)]; exact a, by rw [k 117 (by decide)]; exact b, by rw [f.s1 h2 6 (by decide)]; exact c, by rw [k 151 (by decide), k 94 (by decide)]; exact e, u, cnt, row, ?_, ?_, g3⟩
  · refine g1.fr (by rw [k 117 (by decide)]) (by rw [k 117 (by decide)]) (k 95 (by decide)) fun p hp => k _ ?_
    have : ∀ p, p < 20 → 96 + p ∈ jC := by decide
    exact this p hp
  · obtain ⟨m1, m2, m3⟩ := g2
    refine ⟨m1, by rw [f.s1 h2 7 (by decide)]; exact m2, fun j hj => ?_⟩
    rw [k 153 (by decide), k 152 (by decide)]
    exact m3 j hj
theorem vL.fm {l ss fs : List Nat} {M M' : Mem} {n : Nat} (h : vL M n) (f : FM l ss fs M M') (h1 : nin l [54, 55, 56, 57, 58, 94, 148, 149] = true) (h2 : nin ss [8, 9, 10, 11] = true) : vL M' n := by
  obtain ⟨a, b, c, e, g, s8, s9, s10, s11, g2⟩ := h
  have k : ∀ a, a ∈ [54, 55, 56, 57, 58, 94, 148, 149] → M' a = M a := fun a ha => f.c1 h1 a ha (by simp at ha; omega) (by simp at ha; omega) (by simp at ha; omega) (by simp at ha; omega)
  have t := f.s1 h2
  refine ⟨a, b, c, e, ?_, by rw [t 8 (by decide)]; exact s8, by rw [t 9 (by decide)]; exact s9, by rw [t 10 (by decide)]; exact s10, by rw [t 11 (by decide)]; exact s11, ?_⟩
  · unfold lineC RunC at g ⊢
    rw [k 54 (by decide), k (54 + 1) (by decide), k (54 + 2) (by decide), k (54 + 3) (by decide), k (54 + 4) (by decide), k 94 (by decide), k 149 (by decide)]
    exact g
  · unfold freeC at g2 ⊢
    rw [k 148 (by decide), k 149 (by decide), k 94 (by decide)]
    exact g2
theorem vC.fm {l ss fs : List Nat} {M M' : Mem} (h : vC M) (f : FM l ss fs M M') (h1 : nin l [118, 119, 120, 121, 122, 123, 124, 130, 154] = true) (h2 : nin ss [16, 17] = true) : vC M' := by
  obtain ⟨n, b, A, hO, ⟨c1, c2, c3⟩, r1, r2, r3⟩ := h
  have k : ∀ a, a ∈ [118, 119, 120, 121, 122, 123, 124, 130, 154] → M' a = M a := fun a ha => f.c1 h1 a ha (by simp at ha; omega) (by simp at ha; omega) (by simp at ha; omega) (by simp at ha; omega)
  refine ⟨n, b, A, hO, ⟨by rw [k 130 (by decide)]; exact c1, by rw [k 130 (by decide)]; exact c2, fun i j hi hj => ?_⟩, by rw [f.s1 h2 16 (by decide)]; exact r1, by rw [f.s1 h2 17 (by decide)]; exact r2, fun i j hi hj => ?_⟩
  · have : ∀ i, i < 7 → 118 + i ∈ [118, 119, 120, 121, 122, 123, 124, 130, 154] := by decide
    rw [k (118 + i) (this i hi)]
    exact c3 i j hi hj
  · rw [k 154 (by decide)]; exact r3 i j hi hj
theorem vN.fm {l ss fs : List Nat} {M M' : Mem} (h : vN M) (f : FM l ss fs M M') (h1 : nin l [132, 133, 134, 135, 136, 137, 142, 155, 156, 157] = true) (h2 : nin ss [18] = true) : vN M' := by
  obtain ⟨n, C, S, A, hO, ⟨c1, c2, c3, c4⟩, r1, r2, r3, r4⟩ := h
  have k : ∀ a, a ∈ [132, 133, 134, 135, 136, 137, 142, 155, 156, 157] → M' a = M a := fun a ha => f.c1 h1 a ha (by simp at ha; omega) (by simp at ha; omega) (by simp at ha; omega) (by simp at ha; omega)
  refine ⟨n, C, S, A, hO, ⟨by rw [k 142 (by decide)]; exact c1, by rw [k 132 (by decide)]; exact c2, by rw [k 133 (by decide)]; exact c3, fun i j hi hj => ?_⟩, by rw [f.s1 h2 18 (by decide)]; exact r1, by rw [k 155 (by decide)]; exact r2, by rw [k 156 (by decide)]; exact r3, fun i j hi hj => ?_⟩
  · have : ∀ i, i < 4 → 134 + i ∈ [132, 133, 134, 135, 136, 137, 142, 155, 156, 157] := by decide
    rw [k (134 + i) (this i hi)]
    exact c4 i j hi hj
  · rw [k 157 (by decide)]; exact r4 i j hi hj
theorem vE.fm {l ss fs : List Nat} {M M' : Mem} (h : vE M) (f : FM l ss fs M M') (h1 : nin l [143, 158, 159, 160] = true) (h2 : nin ss [24, 25, 26, 27] = true) : vE M' := by
  obtain ⟨b, a, p, n, L, B, P, hO, c, r⟩ := h
  have k : ∀ a, a ∈ [143, 158, 159, 160] → M' a = M a := fun a ha => f.c1 h1 a ha (by simp at ha; omega) (by simp at ha; omega) (by simp at ha; omega) (by simp at ha; omega)
  have t := f.s1 h2
  refine ⟨b, a, p, n, L, B, P, hO, ?_, ?_⟩
  · unfold CE at c ⊢
    rw [k 143 (by decide)]
    exact c
  · unfold RE at r ⊢
    rw [t 24 (by decide), t 25 (by decide), t 26 (by decide), t 27 (by decide), k 158 (by decide), k 159 (by decide), k 160 (by decide)]
    exact r
theorem vG.fm {l ss fs : List Nat} {M M' : Mem} (h : vG M) (f : FM l ss fs M M') (h1 : nin l [144, 145, 161, 162] = true) : vG M' := by
  have k : ∀ a, a ∈ [144, 145, 161, 162] → M' a = M a := fun a ha => f.c1 h1 a ha (by simp at ha; omega) (by simp at ha; omega) (by simp at ha; omega) (by simp at ha; omega)
  unfold vG at h ⊢
  rw [k 144 (by decide), k 145 (by decide), k 161 (by decide), k 162 (by decide)]
  exact h
/-- the places of what is kept between the calls, but for the result and the numbers -/
abbrev keepC : List Nat := [54, 55, 56, 57, 58, 91, 92, 93, 94, 95, 96, 97, 98, 99, 100, 101, 102, 103, 104, 105, 106, 107, 108, 109, 110, 111, 112, 113, 114, 115, 117, 118, 119, 120, 121, 122, 123, 124, 130, 132, 133, 134, 135, 136, 137, 142, 143, 144, 145, 148, 149, 150, 151, 152, 153, 154, 155, 156, 157, 158, 159, 160, 161, 162]
abbrev keepS : List Nat := [2, 6, 7, 8, 9, 10, 11, 16, 17, 18, 24, 25, 26, 27]
theorem nin_sub {l k k' : List Nat} (h : nin l k = true) (hs : nin k k' = false ∨ ∀ a, a ∈ k' → a ∈ k) (h' : ∀ a, a ∈ k' → a ∈ k) : nin l k' = true := by
  refine List.all_eq_true.mpr fun a ha => ?_
  exact (List.all_eq_true.mp h) a (h' a ha)
theorem nin_s {l k k' : List Nat} (h : nin l k = true) (h' : ∀ a, a ∈ k' → a ∈ k) : nin l k' = true := List.all_eq_true.mpr fun a ha => (List.all_eq_true.mp h) a (h' a ha)
theorem Iv.fm {l ss fs : List Nat} {M M' : Mem} (h : Iv M) (f : FM l ss fs M M') (h1 : nin l keepC = true) (h2 : nin ss keepS = true) (hF : vF M') (hZ : AZ M') : Iv M' := by
  obtain ⟨_, _, a, ⟨n, b, c⟩, e, g, k, m⟩ := h
  exact ⟨hF, hZ, a.fm f (nin_s h1 (by decide)) (nin_s h2 (by decide)), ⟨n, b.fm f (nin_s h1 (by decide)) (nin_s h2 (by decide)), c.fm f (nin_s h1 (by decide)) (nin_s h2 (by decide))⟩, e.fm f (nin_s h1 (by decide)) (nin_s h2 (by decide)), g.fm f (nin_s h1 (by decide)) (nin_s h2 (by decide)), k.fm f (nin_s h1 (by decide)) (nin_s h2 (by decide)), m.fm f (nin_s h1 (by decide))⟩
theorem FM.az {l ss fs : List Nat} {M M' : Mem} (f : FM l ss fs M M') (h : AZ M) (h1 : nin l (List.range 54) = true) : AZ M' := h.low fun a ha => f.c1 h1 a (List.mem_range.mpr ha) (by omega) (by omega) (by omega) (by omega)
/-- nothing kept has changed, the result neither -/
theorem Iv.same {l ss fs : List Nat} {M M' : Mem} (h : Iv M) (f : FM l ss fs M M') (h1 : nin l (List.range 54 ++ keepC) = true) (h2 : nin ss keepS = true) (h3 : 80 ∉ fs) : Iv M' :=
  h.fm f (nin_s h1 fun a ha => List.mem_append_right _ ha) h2 (h.1.fm f (nin_s h1 (by decide)) h3) (f.az h.2.1 (nin_s h1 fun a ha => List.mem_append_left _ ha))
theorem Iv.slot {M : Mem} {v : Int} (h : Iv M) : Iv (upd2 M 175 0 v) := h.same FM.slot (by decide) (by decide) (by simp)
/-- how the answers of both sides go together: what is thrown stands in the list, and thrown() tells its place -/
def agr (es : List Nat) (r r2 : Rs) (M2 : Mem) : Prop := (∃ v, r = .inl v ∧ r2 = .inl v ∧ M2 175 0 = 0) ∨ (∃ k e v, es[k]? = some e ∧ r = .inr e ∧ r2 = .inl v ∧ M2 175 0 = ((k + 1 : Nat) : Int))
/-- a call, on the class and then on the reference -/
def Hca (y z : Nat) (es : List Nat) (a : List PV) : Prop := ∀ M, Iv M → cald 8 y (oQ :: a) M fun r M1 => cald 10 z (oM :: a) M1 fun r2 M2 => Iv M2 ∧ agr es r r2 M2
theorem agr.ok {es : List Nat} {v : Int} {M2 : Mem} (h : M2 175 0 = 0) : agr es (.inl v) (.inl v) M2 := Or.inl ⟨v, rfl, rfl, h⟩
theorem agr.er {es : List Nat} {e : Nat} {v : Int} {M2 : Mem} (k : Nat) (hk : es[k]? = some e) (h : M2 175 0 = ((k + 1 : Nat) : Int)) : agr es (.inr e) (.inl v) M2 := Or.inr ⟨k, e, v, hk, rfl, rfl, h⟩
