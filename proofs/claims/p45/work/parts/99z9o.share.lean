/-! What stays behind a step: cofactors and eliminated equations. -/
def tcof (N : Nat → Nat → Rat) (W i : Nat) : Rat := Dd (fun a c => N (skp i a) (skp i c)) W
def GN (N : Nat → Nat → Rat) (W : Nat) : Prop := Off N (W + 1) ∧ (∀ a, a < W + 1 → sumQ (N a) (W + 1) = 0) ∧ (∀ L, L ≤ W → ∃ y : Nat → Rat, (∀ a, a < L → 0 < y a) ∧ ∀ a, a < L → 0 < sumQ (fun c => N a c * y c) L) ∧ ∀ i, i < W + 1 → 0 < tcof N W i
theorem GN.ip {N : Nat → Nat → Rat} {W L : Nat} {z : Nat → Rat} (h : GN N W) (hL : L ≤ W) (hg : ∀ r, r < L → 0 ≤ sumQ (fun c => N c r * z c) L) : ∀ c, c < L → 0 ≤ z c := by
  obtain ⟨y, y1, y2⟩ := h.2.2.1 L hL
  intro i hi
  have hM : MT (fun r c => if c < L then N c r else sumQ (fun q => N q r * z q) L) L 0 y := by
    refine ⟨fun a c ha hc hn => ?_, fun c _ hc => ?_⟩
    · show (if c < L then N c a else _) ≤ 0
      rw [if_pos hc]
      exact h.1 c a (by omega) (by omega) (fun e => hn e.symm)
    · have e : sumQ (fun a => if 0 ≤ a then y a * (if c < L then N c a else sumQ (fun q => N q a * z q) L) else 0) L = sumQ (fun a => N c a * y a) L := sumQ_congr L fun a _ => by
        rw [if_pos (Nat.zero_le a), if_pos hc]; grind
      rw [e]
      exact y2 c hc
  have hD : ∀ j, j ≤ L → 0 < Dd (fun r c => if c < L then N c r else sumQ (fun q => N q r * z q) L) j := (hM.go y1 L (Nat.le_refl L)).2
  have hn := hM.nn (i := i) (p := L) y1 hi fun a ha => by
    show 0 ≤ (if L < L then N L a else sumQ (fun q => N q a * z q) L)
    rw [if_neg (Nat.lt_irrefl L)]
    exact hg a ha
  have hz := ans_uniq (R := fun r c => if c < L then N c r else sumQ (fun q => N q r * z q) L) (m := L) (fun j hj => by have := hD j hj; grind) (z := fun c => if c < L then z c else -1) (fun r hr => by
    show sumQ (fun c => (if c < L then N c r else sumQ (fun q => N q r * z q) L) * (if c < L then z c else -1)) L + (if L < L then N L r else sumQ (fun q => N q r * z q) L) * (if L < L then z L else -1) = 0
    rw [if_neg (Nat.lt_irrefl L), if_neg (Nat.lt_irrefl L), sumQ_congr (g := fun q => N q r * z q) L fun c hc => by rw [if_pos hc, if_pos hc]]
    grind) (if_neg (Nat.lt_irrefl L)) hi
  rw [if_pos hi] at hz
  rw [hz]
  show 0 ≤ wed L _ L (full L) / Dd _ L
  rw [Rat.div_def]
  exact Rat.mul_nonneg hn (Rat.le_of_lt (Rat.inv_pos.mpr (hD L (Nat.le_refl L))))
theorem sum_nn0 {z : Nat → Rat} {K : Nat} (h : ∀ c, c < K → 0 ≤ z c) (hs : sumQ z K = 0) : ∀ c, c < K → z c = 0 := by
  intro c hc
  refine Rat.le_antisymm (Rat.not_lt.mp fun hp => ?_) (h c hc)
  have := sumQ_pos K h hc hp
  rw [hs] at this
  exact absurd this (by decide)
theorem sumQ_neg {f : Nat → Rat} (m : Nat) : sumQ (fun k => -f k) m = - sumQ f m := by
  rw [sumQ_congr (g := fun k => (-1) * f k) m fun k _ => by grind, sumQ_mul]
  grind
/-- one equation follows from the others -/
theorem GN.all {N : Nat → Nat → Rat} {W : Nat} {z : Nat → Rat} (h : GN N W) (hz : ∀ r, 0 < r → r < W + 1 → sumQ (fun c => N c r * z c) (W + 1) = 0) : ∀ r, r < W + 1 → sumQ (fun c => z c * N c r) (W + 1) = 0 := by
  have e0 : sumQ (fun r => sumQ (fun c => N c r * z c) (W + 1)) (W + 1) = 0 := by
    rw [sumQ_swap (W + 1) (W + 1) (F := fun r c => N c r * z c)]
    refine sumQ_zero _ fun c hc => ?_
    rw [sumQ_congr (g := fun r => z c * N c r) (W + 1) fun r _ => by grind, sumQ_mul, h.2.1 c hc]
    grind
  rw [sumQ_single (r := 0) (W + 1) (by omega) fun r hr hn => hz r (by omega) hr] at e0
  intro r hr
  rw [sumQ_congr (g := fun c => N c r * z c) (W + 1) fun c _ => by grind]
  by_cases e : r = 0
  · rw [e]; exact e0
  · exact hz r (by omega) hr
theorem GN.dep {N : Nat → Nat → Rat} {W i j : Nat} {z : Nat → Rat} (h : GN N W) (hz : ∀ r, r < W + 1 → sumQ (fun c => z c * N c r) (W + 1) = 0) (hi : i < W + 1) (hj : j < W + 1) : z j * tcof N W i = z i * tcof N W j := cof_dep hi hj h.2.1 hz
theorem GN.shareTk {N T : Nat → Nat → Rat} {W : Nat} {s : Rat} (h : GN N W) (hs : s ≠ 0) (h0 : ∀ c, c < W + 1 → T 0 c = 1) (hT : ∀ r c, 0 < r → r < W + 1 → c < W + 1 → T r c = s * N c r) : ∀ k, k < W + 1 → Tk T (k + 1) := by
  intro k hk z hz
  have hz0 : sumQ z (k + 1) = 0 := by
    rw [sumQ_congr (g := fun c => T 0 c * z c) (k + 1) fun c hc => by rw [h0 c (by omega)]; grind]
    exact hz 0 (by omega)
  have hzr : ∀ r, 0 < r → r < k + 1 → sumQ (fun c => N c r * z c) (k + 1) = 0 := fun r h1 h2 => by
    have e := hz r h2
    rw [sumQ_congr (g := fun c => s * (N c r * z c)) (k + 1) fun c hc => by rw [hT r c h1 (by omega) (by omega)]; grind, sumQ_mul] at e
    rcases Rat.mul_eq_zero.mp e with q | q
    · exact absurd q hs
    · exact q
  by_cases e : k = W
  · subst e
    have hall := h.all hzr
    have t0 := h.2.2.2
    have d : ∀ j, j < k + 1 → z j * tcof N k 0 = z 0 * tcof N k j := fun j hj => h.dep hall (by omega) hj
    have s1 : sumQ (fun j => z j * tcof N k 0) (k + 1) = 0 := by
      rw [sumQ_congr (g := fun j => tcof N k 0 * z j) (k + 1) fun j _ => by grind, sumQ_mul, hz0]; grind
    rw [sumQ_congr (g := fun j => z 0 * tcof N k j) (k + 1) d, sumQ_mul] at s1
    have tp : 0 < sumQ (fun j => tcof N k j) (k + 1) := sumQ_pos (r := 0) (k + 1) (fun j hj => Rat.le_of_lt (t0 j hj)) (by omega) (t0 0 (by omega))
    have z0 : z 0 = 0 := by
      rcases Rat.mul_eq_zero.mp s1 with q | q
      · exact q
      · rw [q] at tp; exact absurd tp (by decide)
    intro c hc
    have := d c hc
    rw [z0] at this
    have t1 := t0 0 (by omega)
    rcases Rat.mul_eq_zero.mp (this.trans (by grind)) with q | q
    · exact q
    · rw [q] at t1; exact absurd t1 (by decide)
  · by_cases g : 0 ≤ sumQ (fun c => N c 0 * z c) (k + 1)
    · refine sum_nn0 (h.ip (L := k + 1) (by omega) fun r hr => ?_) hz0
      by_cases e : r = 0
      · rw [e]; exact g
      · rw [hzr r (by omega) hr]; exact Rat.le_refl
    · have nn := h.ip (L := k + 1) (z := fun c => -z c) (by omega) fun r hr => by
        rw [sumQ_congr (g := fun c => -(N c r * z c)) (k + 1) fun c _ => by grind, sumQ_neg]
        by_cases e : r = 0
        · rw [e]; grind
        · rw [hzr r (by omega) hr]; grind
      intro c hc
      have := sum_nn0 (z := fun c => -z c) nn (by rw [sumQ_neg, hz0]; grind) c hc
      grind
theorem GN.loadTk {N T : Nat → Nat → Rat} {W : Nat} {s : Rat} (h : GN N W) (hs : s ≠ 0) (h0 : ∀ c, c < W + 1 → T 0 c = if c = 0 then 1 else 0) (hT : ∀ r c, 0 < r → r < W + 1 → c < W + 1 → T r c = s * N c r) : ∀ k, k < W + 1 → Tk T (k + 1) := by
  intro k hk z hz
  have hz0 : z 0 = 0 := by
    have e := hz 0 (by omega)
    rw [sumQ_single (r := 0) (k + 1) (by omega) fun c hc hn => by rw [h0 c (by omega), if_neg hn]; grind, h0 0 (by omega), if_pos rfl] at e
    grind
  have hzr : ∀ r, 0 < r → r < k + 1 → sumQ (fun c => N c r * z c) (k + 1) = 0 := fun r h1 h2 => by
    have e := hz r h2
    rw [sumQ_congr (g := fun c => s * (N c r * z c)) (k + 1) fun c hc => by rw [hT r c h1 (by omega) (by omega)]; grind, sumQ_mul] at e
    rcases Rat.mul_eq_zero.mp e with q | q
    · exact absurd q hs
    · exact q
  by_cases e : k = W
  · subst e
    have hall := h.all hzr
    intro c hc
    have t1 := h.2.2.2 0 (by omega)
    have := h.dep hall (show 0 < k + 1 by omega) hc
    rw [hz0] at this
    rcases Rat.mul_eq_zero.mp (this.trans (by grind)) with q | q
    · exact q
    · rw [q] at t1; exact absurd t1 (by decide)
  · have neg : ∀ y : Nat → Rat, y 0 = 0 → (∀ c, c < k + 1 → 0 ≤ y c) → sumQ (fun c => N c 0 * y c) (k + 1) ≤ 0 := fun y y0 yn => by
      have := sumQ_nonneg (f := fun c => -(N c 0 * y c)) (k + 1) fun c hc => by
        by_cases e : c = 0
        · rw [e, y0]; grind
        · have := Rat.mul_nonneg (show 0 ≤ -N c 0 by have := h.1 c 0 (by omega) (by omega) e; grind) (yn c hc)
          grind
      rw [sumQ_neg] at this
      grind
    have fin : sumQ (fun c => N c 0 * z c) (k + 1) = 0 → ∀ c, c < k + 1 → z c = 0 := fun g0 => by
      have a1 := h.ip (L := k + 1) (z := z) (by omega) fun r hr => by
        by_cases e : r = 0
        · rw [e, g0]; exact Rat.le_refl
        · rw [hzr r (by omega) hr]; exact Rat.le_refl
      have a2 := h.ip (L := k + 1) (z := fun c => -z c) (by omega) fun r hr => by
        rw [sumQ_congr (g := fun c => -(N c r * z c)) (k + 1) fun c _ => by grind, sumQ_neg]
        by_cases e : r = 0
        · rw [e, g0]; grind
        · rw [hzr r (by omega) hr]; grind
      intro c hc
      have b1 := a1 c hc
      have b2 : 0 ≤ -z c := a2 c hc
      grind
    by_cases g : 0 ≤ sumQ (fun c => N c 0 * z c) (k + 1)
    · have nn := h.ip (L := k + 1) (z := z) (by omega) fun r hr => by
        by_cases e : r = 0
        · rw [e]; exact g
        · rw [hzr r (by omega) hr]; exact Rat.le_refl
      have := neg z hz0 nn
      exact fin (by grind)
    · have nn := h.ip (L := k + 1) (z := fun c => -z c) (by omega) fun r hr => by
        rw [sumQ_congr (g := fun c => -(N c r * z c)) (k + 1) fun c _ => by grind, sumQ_neg]
        by_cases e : r = 0
        · rw [e]; grind
        · rw [hzr r (by omega) hr]; grind
      have := neg (fun c => -z c) (show -z 0 = 0 by rw [hz0]; grind) nn
      rw [sumQ_congr (g := fun c => -(N c 0 * z c)) (k + 1) fun c _ => by grind, sumQ_neg] at this
      exact absurd (show 0 ≤ sumQ (fun c => N c 0 * z c) (k + 1) by grind) g
/-- what the equations say of their answers -/
theorem ans_row {T : Nat → Nat → Rat} {m : Nat} (hD : ∀ j, j ≤ m → Dd T j ≠ 0) {r : Nat} (hr : r < m) : sumQ (fun c => T r c * ansQ T m c) m = T r m := by
  have e := ans_is hD r hr
  have e2 : sumQ (fun c => T r c * (if c < m then ansQ T m c else -1)) m + T r m * (if m < m then ansQ T m m else -1) = 0 := e
  rw [if_neg (Nat.lt_irrefl m), sumQ_congr (g := fun c => T r c * ansQ T m c) m fun c hc => by rw [if_pos hc]] at e2
  grind
theorem GN.shares {N T : Nat → Nat → Rat} {W : Nat} {s : Rat} (h : GN N W) (hs : s ≠ 0) (h0 : ∀ c, c < W + 1 → T 0 c = 1) (hT : ∀ r c, 0 < r → r < W + 1 → c < W + 1 → T r c = s * N c r) (hm0 : T 0 (W + 1) = 1) (hm : ∀ r, 0 < r → r < W + 1 → T r (W + 1) = 0) :
    (∀ j, j ≤ W + 1 → Dd T j ≠ 0) ∧ sumQ (ansQ T (W + 1)) (W + 1) = 1 ∧ (∀ r, r < W + 1 → sumQ (fun c => ansQ T (W + 1) c * N c r) (W + 1) = 0) ∧ ∀ i, i < W + 1 → ansQ T (W + 1) i = tcof N W i / sumQ (tcof N W) (W + 1) := by
  have hD := Dd_ne (h.shareTk hs h0 hT) (W + 1) (Nat.le_refl _)
  have s1 : sumQ (ansQ T (W + 1)) (W + 1) = 1 := by
    rw [← hm0, ← ans_row hD (show 0 < W + 1 by omega)]
    exact sumQ_congr _ fun c hc => by rw [h0 c hc]; grind
  have st := h.all (z := ansQ T (W + 1)) fun r h1 h2 => by
    have e := ans_row hD h2
    rw [hm r h1 h2, sumQ_congr (g := fun c => s * (N c r * ansQ T (W + 1) c)) (W + 1) fun c hc => by rw [hT r c h1 h2 hc]; grind, sumQ_mul] at e
    rcases Rat.mul_eq_zero.mp e with q | q
    · exact absurd q hs
    · exact q
  refine ⟨hD, s1, st, fun i hi => ?_⟩
  have tp : 0 < sumQ (tcof N W) (W + 1) := sumQ_pos (r := 0) (W + 1) (fun j hj => Rat.le_of_lt (h.2.2.2 j hj)) (by omega) (h.2.2.2 0 (by omega))
  have e : sumQ (fun j => ansQ T (W + 1) j * tcof N W i) (W + 1) = sumQ (fun j => ansQ T (W + 1) i * tcof N W j) (W + 1) := sumQ_congr _ fun j hj => h.dep st hi hj
  rw [sumQ_mul, sumQ_congr (g := fun j => tcof N W i * ansQ T (W + 1) j) (W + 1) fun j _ => by grind, sumQ_mul, s1] at e
  have hne : sumQ (tcof N W) (W + 1) ≠ 0 := by grind
  have e2 : sumQ (fun j => tcof N W j) (W + 1) = sumQ (tcof N W) (W + 1) := rfl
  rw [e2] at e
  generalize sumQ (tcof N W) (W + 1) = u at *
  generalize tcof N W i = t at *
  grind
theorem GN.loads {N T : Nat → Nat → Rat} {W : Nat} {s : Rat} (h : GN N W) (hs : s ≠ 0) (h0 : ∀ c, c < W + 1 → T 0 c = if c = 0 then 1 else 0) (hT : ∀ r c, 0 < r → r < W + 1 → c < W + 1 → T r c = s * N c r) (hm0 : T 0 (W + 1) = 1) (hm : ∀ r, 0 < r → r < W + 1 → T r (W + 1) = 0) :
    (∀ j, j ≤ W + 1 → Dd T j ≠ 0) ∧ (∀ r, r < W + 1 → sumQ (fun c => ansQ T (W + 1) c * N c r) (W + 1) = 0) ∧ ∀ i, i < W + 1 → ansQ T (W + 1) i = tcof N W i / tcof N W 0 := by
  have hD := Dd_ne (h.loadTk hs h0 hT) (W + 1) (Nat.le_refl _)
  have s1 : ansQ T (W + 1) 0 = 1 := by
    rw [← hm0, ← ans_row hD (show 0 < W + 1 by omega), sumQ_single (r := 0) (W + 1) (by omega) fun c hc hn => by rw [h0 c hc, if_neg hn]; grind, h0 0 (by omega), if_pos rfl]
    grind
  have st := h.all (z := ansQ T (W + 1)) fun r h1 h2 => by
    have e := ans_row hD h2
    rw [hm r h1 h2, sumQ_congr (g := fun c => s * (N c r * ansQ T (W + 1) c)) (W + 1) fun c hc => by rw [hT r c h1 h2 hc]; grind, sumQ_mul] at e
    rcases Rat.mul_eq_zero.mp e with q | q
    · exact absurd q hs
    · exact q
  refine ⟨hD, st, fun i hi => ?_⟩
  have tp := h.2.2.2 0 (by omega)
  have e := h.dep st (show 0 < W + 1 by omega) hi
  rw [s1] at e
  have hne : tcof N W 0 ≠ 0 := by grind
  generalize tcof N W 0 = u at *
  generalize tcof N W i = t at *
  grind
