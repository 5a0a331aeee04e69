/-! Rows of rows of fractions. -/
def MRq (C : LMem) (q n m : Nat) (P : Nat → Nat) (D : Nat → Nat → Prop) (X : Nat → Nat → Rat) : Prop := (∃ f, C q = (7, n, f) ∧ ∀ i, i < n → f i = ((P i + 1 : Nat) : Int)) ∧ (∀ i, i < n → ∃ g, C (P i) = (6, m, g) ∧ ∀ j, j < m → D i j → ∃ p : Nat, g j = ((p + 1 : Nat) : Int) ∧ FL C p (X i j)) ∧ ∀ i j, i < n → j < n → P i = P j → i = j
def upX (X : Nat → Nat → Rat) (i j : Nat) (x : Rat) : Nat → Nat → Rat := fun a c => if a = i ∧ c = j then x else X a c
theorem zzL {x : Nat} : x ∉ ([] : List Nat) := fun h => by cases h
theorem FL.oth {C : LMem} {p z k m : Nat} {x : Rat} {f : Nat → Int} {y : LCel} (h : FL C p x) (hz : C z = (k, m, f)) (hk : k ≠ 2) : FL (cst C z y) p x := by
  obtain ⟨g, g1, g2⟩ := h
  refine ⟨g, ?_, g2⟩
  rw [cst_ne (fun w => ?_)]
  · exact g1
  · rw [w, hz] at g1
    exact hk (congrArg (fun x : LCel => x.1) g1)
section MRS
variable {C C' C0 : LMem} {q n m : Nat} {P : Nat → Nat} {D : Nat → Nat → Prop} {X : Nat → Nat → Rat}
theorem MRq.off (h : MRq C q n m P D X) (hf : LF [] C C') : MRq C' q n m P D X := by
  obtain ⟨⟨f, h1, h2⟩, h3, h4⟩ := h
  refine ⟨⟨f, hf.at' (k := 6) zzL h1, h2⟩, fun i hi => ?_, h4⟩
  obtain ⟨g, g1, g2⟩ := h3 i hi
  refine ⟨g, hf.at' (k := 5) zzL g1, fun j hj hd => ?_⟩
  obtain ⟨p, p1, p2⟩ := g2 j hj hd
  exact ⟨p, p1, p2.kept hf zzL⟩
theorem MRq.cg {D' : Nat → Nat → Prop} {Y : Nat → Nat → Rat} (h : MRq C q n m P D X) (hd : ∀ a c, a < n → c < m → D' a c → D a c ∧ X a c = Y a c) : MRq C q n m P D' Y := by
  obtain ⟨h1, h3, h4⟩ := h
  refine ⟨h1, fun i hi => ?_, h4⟩
  obtain ⟨g, g1, g2⟩ := h3 i hi
  refine ⟨g, g1, fun j hj w => ?_⟩
  obtain ⟨w1, w2⟩ := hd i j hi hj w
  rw [← w2]
  exact g2 j hj w1
theorem MRq.ne (h : MRq C q n m P D X) {i : Nat} (hi : i < n) : P i ≠ q := fun w => by
  obtain ⟨⟨f, h1, h2⟩, h3, h4⟩ := h
  obtain ⟨g, g1, g2⟩ := h3 i hi
  rw [w, h1] at g1
  have h9 : (7 : Nat) = 6 := congrArg (fun x : LCel => x.1) g1
  omega
theorem MRq.set {i j p : Nat} {x : Rat} {g : Nat → Int} (h : MRq C q n m P D X) (hi : i < n) (hg : C (P i) = (6, m, g)) (hx : FL C p x) : MRq (cst C (P i) (6, m, sr g j ((p + 1 : Nat) : Int))) q n m P (fun a c => D a c ∨ (a = i ∧ c = j)) (upX X i j x) := by
  have hne := h.ne hi
  obtain ⟨⟨f, h1, h2⟩, h3, h4⟩ := h
  refine ⟨⟨f, by rw [cst_ne (Ne.symm hne)]; exact h1, h2⟩, fun a ha => ?_, h4⟩
  by_cases e : a = i
  · subst e
    refine ⟨_, cst_self, fun c hc w => ?_⟩
    by_cases z : c = j
    · refine ⟨p, by rw [z, sr_same], ?_⟩
      unfold upX
      rw [if_pos ⟨rfl, z⟩]
      exact hx.oth hg (by decide)
    · obtain ⟨g2, g3, g4⟩ := h3 a ha
      rw [hg] at g3
      have eg : g = g2 := congrArg (fun x : LCel => x.2.2) g3
      obtain ⟨p2, p3, p4⟩ := g4 c hc (w.elim id fun w => absurd w.2 z)
      refine ⟨p2, by rw [sr_ne z, eg]; exact p3, ?_⟩
      unfold upX
      rw [if_neg (fun w => z w.2)]
      exact p4.oth hg (by decide)
  · obtain ⟨g2, g3, g4⟩ := h3 a ha
    refine ⟨g2, by rw [cst_ne (fun w => e (h4 a i ha hi w))]; exact g3, fun c hc w => ?_⟩
    obtain ⟨p2, p3, p4⟩ := g4 c hc (w.elim id fun w => absurd w.1 e)
    refine ⟨p2, p3, ?_⟩
    unfold upX
    rw [if_neg (fun w => e w.1)]
    exact p4.oth hg (by decide)
theorem MRq.oth {z k mz : Nat} {f : Nat → Int} {y : LCel} (h : MRq C q n m P D X) (hz : C z = (k, mz, f)) (h2 : k ≠ 2) (h6 : z ≠ q ∧ ∀ i, i < n → z ≠ P i) : MRq (cst C z y) q n m P D X := by
  obtain ⟨⟨f', h1, h2'⟩, h3, h4⟩ := h
  refine ⟨⟨f', by rw [cst_ne (Ne.symm h6.1)]; exact h1, h2'⟩, fun i hi => ?_, h4⟩
  obtain ⟨g, g1, g2⟩ := h3 i hi
  refine ⟨g, by rw [cst_ne (Ne.symm (h6.2 i hi))]; exact g1, fun j hj w => ?_⟩
  obtain ⟨p, p1, p2⟩ := g2 j hj w
  exact ⟨p, p1, p2.oth hz h2⟩
theorem MRq.mk (hfr : ∀ j, j ≤ n → (C (q + j)).1 = 0) : MRq (cmn C q n 7 6 m) q n m (fun i => q + 1 + i) (fun _ _ => False) X := by
  refine ⟨⟨_, by unfold cmn; rw [if_pos rfl], fun i hi => if_pos hi⟩, fun i hi => ⟨fun _ => 0, ?_, fun _ _ w => absurd w id⟩, fun i j _ _ h => by
    have h : q + 1 + i = q + 1 + j := h
    omega⟩
  show cmn C q n 7 6 m (q + 1 + i) = _
  unfold cmn
  rw [if_neg (by omega), if_pos ⟨by omega, by omega⟩]
end MRS
theorem cup_self {C : LMem} {q k n i : Nat} {f : Nat → Int} {v : Int} (h : C q = (k, n, f)) (hv : f i = v) : cup C q i v = C := by
  rw [cup_of h]
  have e : sr f i v = f := by
    funext j
    by_cases z : j = i
    · rw [z, sr_same, hv]
    · rw [sr_ne z]
  rw [e]
  funext j
  by_cases z : j = q
  · rw [z, cst_self, h]
  · rw [cst_ne z]
/-! Bounds of what elimination meets. -/
theorem bq_of {x : Rat} {u w : Int} {U W : Nat} (h : x * (w : Rat) = (u : Rat)) (hw : w ≠ 0) (hu : u.natAbs ≤ U) (hW : w.natAbs ≤ W) : Bq x U W := by
  have h1 : ((w : Int) : Rat) ≠ 0 := int_ne hw
  have e : x = (u : Rat) / (w : Rat) := by
    rw [← h]
    generalize (w : Rat) = y at *
    grind
  rw [e]
  exact (Bq_div hw).mono hu hW
abbrev q4 : Rat := ((4 : Int) : Rat)
theorem q4_ne : q4 ≠ 0 := int_ne (by decide)
theorem q4_pow (k : Nat) : q4 ^ k ≠ 0 := by
  rw [← cast_pow]
  exact int_ne (by have : (0 : Int) < 4 ^ k := Int.pow_pos (by decide)
                   omega)
def nT (T : Nat → Nat → Rat) (n : Nat) : Prop := (∀ a c, a < n → c < n → Wh (T a c * q4) 4) ∧ ∀ a, a < n → Wh (T a n * q4) 176
theorem pw3 : ∀ k : Nat, k < 4 → ((k : Int) * 4) ^ k ≤ 1728 ∧ 0 ≤ ((k : Int) * 4) ^ k ∧ (k < 3 → ((k : Int) * 4) ^ k ≤ 64) ∧ (k < 2 → ((k : Int) * 4) ^ k ≤ 4) := by decide
theorem nT.D {T : Nat → Nat → Rat} {n k : Nat} (h : nT T n) (hk : k ≤ n) : Wh (Dd T k * q4 ^ k) (((k : Int) * 4) ^ k) := by
  unfold Dd
  rw [wed_D]
  exact wed_whole (by decide) k (fun a c ha hc => h.1 a c (by omega) (by omega)) _
theorem nT.col {T : Nat → Nat → Rat} {n k i j : Nat} (h : nT T n) (hk : k ≤ n) (hi : i < k) (hj : j ≤ n) : Wh (wed k (colR T (fc i j)) k (full k) * q4 ^ k) (44 * ((k : Int) * 4) ^ k) := by
  rw [wed_D]
  have h1 := wed_col (W := k) (i := i) (R := fun a c => colR T (fc i j) a c * q4) (a := 4) (g := 44) (by decide) (by decide) k (fun r c hr hc => by
    show Wh (T r (if c = i then j else c) * q4) _
    by_cases e : c = i
    · rw [if_pos e, if_pos e]
      by_cases ej : j = n
      · rw [ej]; exact h.2 r (by omega)
      · obtain ⟨z, z1, z2, z3⟩ := h.1 r j (by omega) (by omega)
        exact ⟨z, z1, by omega, by omega⟩
    · rw [if_neg e, if_neg e]; exact h.1 r c (by omega) (by omega)) (full k)
  have e : full k i = true := decide_eq_true hi
  rw [e, if_pos rfl] at h1
  exact h1
theorem nT.low {T : Nat → Nat → Rat} {n k i j : Nat} (h : nT T n) (hki : k ≤ i) (hi : i < n) (hj : j ≤ n) : Wh (Wd (k + 1) (colR T (fc k j) i) (wed (k + 1) (colR T (fc k j)) k) (full (k + 1)) * (q4 ^ k * q4)) (44 * (((k + 1 : Nat) : Int) * 4) ^ (k + 1)) := by
  rw [Wd_D]
  have e1 : (fun S => wed (k + 1) (colR T (fc k j)) k S * q4 ^ k) = wed (k + 1) (fun a c => colR T (fc k j) a c * q4) k := by
    funext S
    exact wed_D k S
  rw [e1]
  have e2 : Wd (k + 1) (fun c => colR T (fc k j) i c * q4) (wed (k + 1) (fun a c => colR T (fc k j) a c * q4) k) (full (k + 1)) = wed (k + 1) (upR (fun a c => colR T (fc k j) a c * q4) k (fun c => colR T (fc k j) i c * q4)) (k + 1) (full (k + 1)) := by
    show _ = Wd (k + 1) (upR (fun a c => colR T (fc k j) a c * q4) k (fun c => colR T (fc k j) i c * q4) k) (wed (k + 1) (upR (fun a c => colR T (fc k j) a c * q4) k (fun c => colR T (fc k j) i c * q4)) k) (full (k + 1))
    rw [wed_off k (Nat.le_refl k), show upR (fun a c => colR T (fc k j) a c * q4) k (fun c => colR T (fc k j) i c * q4) k = (fun c => colR T (fc k j) i c * q4) from if_pos rfl]
  rw [e2]
  have cell : ∀ r c, r < n → c < k + 1 → Wh (T r (if c = k then j else c) * q4) (if c = k then 44 * 4 else 4) := fun r c hr hc => by
    by_cases e : c = k
    · rw [if_pos e, if_pos e]
      by_cases ej : j = n
      · rw [ej]; exact h.2 r hr
      · obtain ⟨z, z1, z2, z3⟩ := h.1 r j hr (by omega)
        exact ⟨z, z1, by omega, by omega⟩
    · rw [if_neg e, if_neg e]; exact h.1 r c hr (by omega)
  have h1 := wed_col (W := k + 1) (i := k) (R := upR (fun a c => colR T (fc k j) a c * q4) k (fun c => colR T (fc k j) i c * q4)) (a := 4) (g := 44) (by decide) (by decide) (k + 1) (fun r c hr hc => by
    by_cases e : r = k
    · rw [show upR (fun a c => colR T (fc k j) a c * q4) k (fun c => colR T (fc k j) i c * q4) r = (fun c => colR T (fc k j) i c * q4) from if_pos e]
      exact cell i c hi hc
    · rw [show upR (fun a c => colR T (fc k j) a c * q4) k (fun c => colR T (fc k j) i c * q4) r = (fun c => colR T (fc k j) r c * q4) from if_neg e]
      exact cell r c (by omega) hc) (full (k + 1))
  have e : full (k + 1) k = true := decide_eq_true (Nat.lt_succ_self k)
  rw [e, if_pos rfl] at h1
  exact h1
/-- an entry as a quotient of whole numbers -/
theorem El.quo {T X : Nat → Nat → Rat} {n k i j : Nat} (h : El T X n k) (hn : n ≤ 3) (hk : k ≤ n) (hi : i < n) (hj : j ≤ n) (hT : nT T n) (hne : ∀ r, r ≤ n → Dd T r ≠ 0) : ∃ u w : Int, X i j * (w : Rat) = (u : Rat) ∧ w ≠ 0 ∧ ((k ≤ i ∧ u.natAbs ≤ 76032 ∧ w.natAbs ≤ 256) ∨ (i < k ∧ k < 3 ∧ u.natAbs ≤ 180224 ∧ w.natAbs ≤ 1024) ∨ (i < k ∧ ¬ k < 3 ∧ u.natAbs ≤ 131383296 ∧ w.natAbs ≤ 442368)) := by
  obtain ⟨d, d1, d2, d3⟩ := hT.D hk
  have pk := pw3 k (by omega)
  have dz : d ≠ 0 := fun z => by
    rw [z] at d1
    rcases Rat.mul_eq_zero.mp (d1.trans (show ((0 : Int) : Rat) = 0 from rfl)) with q | q
    · exact hne k hk q
    · exact q4_pow k q
  by_cases e : k ≤ i
  · have hl := h.low (j := j) e hi
    obtain ⟨z, z1, z2, z3⟩ := hT.low (j := j) e hi hj
    rw [← hl] at z1
    have p1 := pw3 (k + 1) (by omega)
    refine ⟨z, d * 4, ?_, by omega, Or.inl ⟨e, by omega, ?_⟩⟩
    · rw [← z1, Rat.intCast_mul, ← d1]
      generalize X i j = a
      generalize Dd T k = b
      generalize q4 ^ k = c
      show a * (b * c * q4) = a * b * (c * q4)
      grind
    · have := pk.2.2.1 (by omega)
      omega
  · have hl := h.high (j := j) hk (show i < k by omega)
    obtain ⟨z, z1, z2, z3⟩ := hT.col (i := i) (j := j) hk (by omega) hj
    obtain ⟨a, a1, a2, a3⟩ := hT.D (k := i) (by omega)
    obtain ⟨b, b1, b2, b3⟩ := hT.D (k := i + 1) (by omega)
    have hx := (h.2.2 i (by omega)).2
    have az : a ≠ 0 := fun z => by
      rw [z] at a1
      rcases Rat.mul_eq_zero.mp (a1.trans (show ((0 : Int) : Rat) = 0 from rfl)) with q | q
      · exact hne i (by omega) q
      · exact q4_pow i q
    have pi := pw3 i (by omega)
    have pi1 := pw3 (i + 1) (by omega)
    have key : X i j * ((d * a * 4 : Int) : Rat) = ((z * b : Int) : Rat) := by
      rw [Rat.intCast_mul, Rat.intCast_mul, Rat.intCast_mul, ← d1, ← a1, ← b1, ← z1, ← hx, Rat.pow_succ]
      generalize wed k (colR T (fc i j)) k (full k) = w at *
      generalize X i j = u at *
      generalize X i i = t at *
      generalize Dd T k = v at *
      generalize Dd T i = s at *
      generalize q4 ^ k = x at *
      generalize q4 ^ i = y at *
      show u * (v * x * (s * y) * q4) = w * x * (t * s * (y * q4))
      grind
    have n1 : (d * a).natAbs = d.natAbs * a.natAbs := Int.natAbs_mul d a
    have n2 : (z * b).natAbs = z.natAbs * b.natAbs := Int.natAbs_mul z b
    have na : d * a ≠ 0 := Int.mul_ne_zero dz az
    refine ⟨z * b, d * a * 4, key, by omega, Or.inr ?_⟩
    by_cases k3 : k < 3
    · refine Or.inl ⟨by omega, k3, ?_, ?_⟩
      · have h1 : z.natAbs ≤ 2816 := by have := pk.2.2.1 k3; omega
        have h2 : b.natAbs ≤ 64 := by have := pi1.2.2.1 (by omega); omega
        have := Nat.mul_le_mul h1 h2
        omega
      · have h1 : d.natAbs ≤ 64 := by have := pk.2.2.1 k3; omega
        have h2 : a.natAbs ≤ 4 := by have := pi.2.2.2 (by omega); omega
        have := Nat.mul_le_mul h1 h2
        omega
    · refine Or.inr ⟨by omega, k3, ?_, ?_⟩
      · have h1 : z.natAbs ≤ 76032 := by omega
        have h2 : b.natAbs ≤ 1728 := by omega
        have := Nat.mul_le_mul h1 h2
        omega
      · have h1 : d.natAbs ≤ 1728 := by omega
        have h2 : a.natAbs ≤ 64 := by have := pi.2.2.1 (by omega); omega
        have := Nat.mul_le_mul h1 h2
        omega
theorem El.bq {T X : Nat → Nat → Rat} {n k i j : Nat} (h : El T X n k) (hn : n ≤ 3) (hk : k < n) (hi : i < n) (hj : j ≤ n) (hT : nT T n) (hne : ∀ r, r ≤ n → Dd T r ≠ 0) : Bq (X i j) 262144 1024 := by
  obtain ⟨u, w, h1, h2, ⟨-, h3, h4⟩ | ⟨-, -, h3, h4⟩ | ⟨-, h0, -, -⟩⟩ := h.quo hn (Nat.le_of_lt hk) hi hj hT hne
  · exact bq_of h1 h2 (by omega) (by omega)
  · exact bq_of h1 h2 (by omega) (by omega)
  · exact absurd (by omega) h0
theorem El.bqE {T X : Nat → Nat → Rat} {n i j : Nat} (h : El T X n n) (hn : n ≤ 3) (hi : i < n) (hj : j ≤ n) (hT : nT T n) (hne : ∀ r, r ≤ n → Dd T r ≠ 0) : Bq (X i j) 268435456 524288 := by
  obtain ⟨u, w, h1, h2, ⟨-, h3, h4⟩ | ⟨-, -, h3, h4⟩ | ⟨-, -, h3, h4⟩⟩ := h.quo hn (Nat.le_refl n) hi hj hT hne
  · exact bq_of h1 h2 (by omega) (by omega)
  · exact bq_of h1 h2 (by omega) (by omega)
  · exact bq_of h1 h2 (by omega) (by omega)
theorem ans_bq {T : Nat → Nat → Rat} {n i : Nat} (hn : n ≤ 3) (hi : i < n) (hT : nT T n) (hne : Dd T n ≠ 0) : Bq (ansQ T n i) 76032 1728 := by
  obtain ⟨d, d1, d2, d3⟩ := hT.D (Nat.le_refl n)
  obtain ⟨z, z1, z2, z3⟩ := hT.col (i := i) (j := n) (Nat.le_refl n) hi (Nat.le_refl n)
  have pk := pw3 n (by omega)
  have hp := q4_pow n
  have dz : d ≠ 0 := fun z => by
    rw [z] at d1
    rcases Rat.mul_eq_zero.mp (d1.trans (show ((0 : Int) : Rat) = 0 from rfl)) with q | q
    · exact hne q
    · exact hp q
  refine bq_of (u := z) (w := d) ?_ dz (by omega) (by omega)
  rw [← d1, ← z1]
  show wed n (colR T (fc i n)) n (full n) / Dd T n * (Dd T n * q4 ^ n) = _
  generalize wed n (colR T (fc i n)) n (full n) = w at *
  generalize Dd T n = v at *
  generalize q4 ^ n = x at *
  grind
