/-! The calls that change the jobs: come, clear, undo, read. -/
theorem add4_lo {f : Nat → Int} {n : Nat} {a b c e : Int} {i : Nat} (h : i < 4 * n) : add4 f n a b c e i = f i := by
  unfold add4
  rw [sr_ne (by omega), sr_ne (by omega), sr_ne (by omega), sr_ne (by omega)]
theorem add4_at {f : Nat → Int} {n : Nat} {a b c e : Int} : add4 f n a b c e (4 * n) = a ∧ add4 f n a b c e (4 * n + 1) = b ∧ add4 f n a b c e (4 * n + 2) = c ∧ add4 f n a b c e (4 * n + 3) = e := by
  unfold add4
  refine ⟨by rw [sr_ne (by omega), sr_ne (by omega), sr_ne (by omega), sr_same], by rw [sr_ne (by omega), sr_ne (by omega), sr_same], by rw [sr_ne (by omega), sr_same], by rw [sr_same]⟩
theorem VJ.add {n : Nat} {f : Nat → Int} {a b c e : Int} (h : VJ n f) (hj : jobOk a b c e) (hc : comeOk n f a) : VJ (n + 1) (add4 f n a b c e) := by
  obtain ⟨h1, h2, h3⟩ := h
  obtain ⟨g1, g2⟩ := hc
  refine ⟨by omega, fun k hk => ?_, fun k hk => ?_⟩
  · by_cases q : k = n
    · subst q
      obtain ⟨p1, p2, p3, p4⟩ := add4_at (f := f) (n := k) (a := a) (b := b) (c := c) (e := e)
      rw [p1, p2, p3, p4]
      exact hj
    · rw [add4_lo (by omega), add4_lo (by omega), add4_lo (by omega), add4_lo (by omega)]
      exact h2 k (by omega)
  · by_cases q : k + 1 = n
    · rw [add4_lo (by omega), q, add4_at.1]
      rcases g2 with z | z
      · omega
      · have : n - 1 = k := by omega
        rw [this] at z
        exact z
    · rw [add4_lo (by omega), add4_lo (by omega)]
      exact h3 k (by omega)
theorem VJ.told {n : Nat} {f : Nat → Int} {T : Nat → Int} : ∀ c, VJ n f → allOk T c → inOrder (if n = 0 then 0 else f (4 * (n - 1))) T c → n + c ≤ 24 → VJ (n + c) (addT f n T c) ∧ (0 < c → addT f n T c (4 * (n + c - 1)) = T (4 * (c - 1)))
  | 0, h, _, _, _ => ⟨h, fun z => absurd z (by omega)⟩
  | c + 1, h, ha, ho, h24 => by
    obtain ⟨i1, i2⟩ := VJ.told c h (fun k hk => ha k (by omega)) (fun k hk => ho k (by omega)) (by omega)
    have hc := ho c (by omega)
    refine ⟨i1.add (ha c (by omega)) ⟨by omega, ?_⟩, fun _ => ?_⟩
    · by_cases e : c = 0
      · subst e
        rw [if_pos rfl] at hc
        by_cases e0 : n = 0
        · exact Or.inl (by omega)
        · rw [if_neg e0] at hc
          exact Or.inr hc
      · rw [if_neg e] at hc
        rw [i2 (by omega)]
        exact Or.inr hc
    · show add4 (addT f n T c) (n + c) _ _ _ _ _ = _
      rw [show n + (c + 1) - 1 = n + c by omega, add4_at.1]
      rfl
theorem vH_more {n u : Nat} {J : Nat → Int} {cnt : Nat → Int} {row : Nat → Nat → Int} (hV : VJ n J) (hu : u ≤ 20) (h : ∀ k, k < u → ∃ m : Nat, cnt k = m ∧ VJ m (row k)) : ∀ k, k < hlen u → ∃ m : Nat, hcnt u cnt (n : Int) k = m ∧ VJ m (hcnt u row J k) := fun k hk => by
  unfold hlen at hk
  unfold hcnt
  by_cases e : u = 20
  · rw [if_pos e] at hk
    simp only [if_pos e]
    by_cases q : k = 19
    · simp only [if_pos q]; exact ⟨n, rfl, hV⟩
    · simp only [if_neg q]; exact h (k + 1) (by omega)
  · rw [if_neg e] at hk
    simp only [if_neg e]
    by_cases q : k = u
    · simp only [if_pos q]; exact ⟨n, rfl, hV⟩
    · simp only [if_neg q]; exact h k (by omega)
theorem vL.np {M M' : Mem} {n m : Nat} (h : vL M n) (k : M' 54 = M 54) (s : ∀ t, t ∈ [8, 9, 10, 11] → M' 175 t = M 175 t) (hp : NoPlay M') : vL M' m := by
  obtain ⟨a, b, c, e, ⟨g1, g2, g3, g4, g5, _⟩, s8, s9, s10, s11, _⟩ := h
  refine ⟨a, b, c, e, ⟨by rw [k]; exact g1, by rw [k]; exact g2, by rw [k]; exact g3, by rw [k]; exact g4, g5, Or.inl hp.1⟩, by rw [s 8 (by decide)]; exact s8, by rw [s 9 (by decide)]; exact s9, by rw [s 10 (by decide)]; exact s10, by rw [s 11 (by decide)]; exact s11, fun r hr => Or.inl (hp.2 r hr), fun z => absurd (hp.2 0 (by decide)) z⟩
/-- only the jobs and the plays (and perhaps the text) have changed -/
theorem Iv.job {l ss fs : List Nat} {M M' : Mem} {n m : Nat} (h : Iv M) (f : FM l ss fs M M') (h1 : nin l ((List.range 54 ++ keepC).filter fun a => !((jC ++ [91, 92, 93, 148, 149, 150]).contains a)) = true) (h2 : nin ss [8, 9, 10, 11, 16, 17, 18, 24, 25, 26, 27] = true) (h3 : 80 ∉ fs) (hT : vT M') (hL : vL M n) (hp : NoPlay M') (hJ : vJ M' m) : Iv M' := by
  obtain ⟨z, y, _, _, e, g, k, q⟩ := h
  exact ⟨z.fm f (nin_s h1 (by decide)) h3, f.az y (nin_s h1 (by decide)), hT, ⟨m, hJ, hL.np (f.c1 (k := [54]) (nin_s h1 (by decide)) 54 (by decide) (by decide) (by decide) (by decide) (by decide)) (f.s1 (nin_s h2 (by decide))) hp⟩, e.fm f (nin_s h1 (by decide)) (nin_s h2 (by decide)), g.fm f (nin_s h1 (by decide)) (nin_s h2 (by decide)), k.fm f (nin_s h1 (by decide)) (nin_s h2 (by decide)), q.fm f (nin_s h1 (by decide))⟩
theorem NoPlay.hi {M M' : Mem} (h : NoPlay M) (k : ∀ a, a < 150 → M' a = M a) : NoPlay M' := by
  unfold NoPlay at h ⊢
  rw [k 149 (by decide), k 148 (by decide)]
  exact h