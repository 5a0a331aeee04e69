/-! isClosedNet: the sums over the states, as the law takes them. -/
def wJ (J : Nat) (L : Nat → Nat) (a b : Nat) : Nat := if J = 2 then L a * L b else L a
def addm (J x a b : Nat) (m : Nat → Nat) : Nat → Nat := fun k => (m k + if k = a then x else 0) + if J = 2 ∧ k = b then x else 0
def fI (J : Nat) (L : Nat → Nat) (a : Nat) : Nat → Nat → Nat × (Nat → Nat) → Nat × (Nat → Nat)
  | 0, _, s => s
  | u + 1, b, s => fI J L a u (b + 1) (s.1 + wJ J L a b, addm J (wJ J L a b) a b s.2)
def fO (J n : Nat) (L : Nat → Nat) : Nat → Nat → Nat × (Nat → Nat) → Nat × (Nat → Nat)
  | 0, _, s => s
  | v + 1, a, s => fO J n L v (a + 1) (fI J L a (if J = 2 then n - a else 1) a s)
theorem fI_le {J : Nat} {L : Nat → Nat} {a : Nat} : ∀ (u b : Nat) (s : Nat × (Nat → Nat)), s.1 ≤ (fI J L a u b s).1 ∧ ∀ k, s.2 k ≤ (fI J L a u b s).2 k
  | 0, _, s => ⟨Nat.le_refl _, fun _ => Nat.le_refl _⟩
  | u + 1, b, s => by
    obtain ⟨h1, h2⟩ := fI_le (J := J) (L := L) (a := a) u (b + 1) (s.1 + wJ J L a b, addm J (wJ J L a b) a b s.2)
    refine ⟨Nat.le_trans (Nat.le_add_right _ _) h1, fun k => Nat.le_trans ?_ (h2 k)⟩
    show s.2 k ≤ (s.2 k + if k = a then wJ J L a b else 0) + if J = 2 ∧ k = b then wJ J L a b else 0
    omega
theorem fO_le {J n : Nat} {L : Nat → Nat} : ∀ (v a : Nat) (s : Nat × (Nat → Nat)), s.1 ≤ (fO J n L v a s).1 ∧ ∀ k, s.2 k ≤ (fO J n L v a s).2 k
  | 0, _, s => ⟨Nat.le_refl _, fun _ => Nat.le_refl _⟩
  | v + 1, a, s => by
    obtain ⟨h1, h2⟩ := fO_le (J := J) (n := n) (L := L) v (a + 1) (fI J L a (if J = 2 then n - a else 1) a s)
    obtain ⟨h3, h4⟩ := fI_le (J := J) (L := L) (a := a) (if J = 2 then n - a else 1) a s
    exact ⟨Nat.le_trans h3 h1, fun k => Nat.le_trans (h4 k) (h2 k)⟩
abbrev s00 : Nat × (Nat → Nat) := (0, fun _ => 0)
theorem mn_skip {l : Nat → Nat} {n J x s : Nat} (h : jS s n ≠ J) : mnN l n J x (s + 1) = mnN l n J x s := by
  show mnN l n J x s + (if jS s n = J then jA s x * shN l s n else 0) = _
  rw [if_neg h, Nat.add_zero]
theorem sm_skip {l : Nat → Nat} {n J s : Nat} (h : jS s n ≠ J) : smN l n J (s + 1) = smN l n J s := by
  show smN l n J s + (if jS s n = J then shN l s n else 0) = _
  rw [if_neg h, Nat.add_zero]
theorem mn_run {l : Nat → Nat} {n J x s : Nat} : ∀ k, (∀ i, i < k → jS (s + i) n ≠ J) → mnN l n J x (s + k) = mnN l n J x s
  | 0, _ => rfl
  | k + 1, h => (mn_skip (h k (Nat.lt_succ_self k))).trans (mn_run k fun i hi => h i (by omega))
theorem sm_run {l : Nat → Nat} {n J s : Nat} : ∀ k, (∀ i, i < k → jS (s + i) n ≠ J) → smN l n J (s + k) = smN l n J s
  | 0, _ => rfl
  | k + 1, h => (sm_skip (h k (Nat.lt_succ_self k))).trans (sm_run k fun i hi => h i (by omega))
theorem mn_hit {l : Nat → Nat} {n J x s : Nat} (h : jS s n = J) : mnN l n J x (s + 1) = mnN l n J x s + jA s x * shN l s n := by
  show mnN l n J x s + (if jS s n = J then jA s x * shN l s n else 0) = _
  rw [if_pos h]
theorem sm_hit {l : Nat → Nat} {n J s : Nat} (h : jS s n = J) : smN l n J (s + 1) = smN l n J s + shN l s n := by
  show smN l n J s + (if jS s n = J then shN l s n else 0) = _
  rw [if_pos h]
theorem wJ_2 {l : Nat → Nat} {a b : Nat} : wJ 2 l a b = l a * l b := if_pos rfl
theorem wJ_1 {l : Nat → Nat} {a b : Nat} : wJ 1 l a b = l a := if_neg (by decide)
theorem sm_11 {l : Nat → Nat} : smN l 1 1 4 = 0 + shN l 1 1 := by
  rw [show smN l 1 1 4 = smN l 1 1 2 from sm_run (s := 2) 2 (by decide)]
  rw [show smN l 1 1 2 = smN l 1 1 1 + shN l 1 1 from sm_hit (s := 1) (by decide)]
  rw [show smN l 1 1 1 = smN l 1 1 0 from sm_run (s := 0) 1 (by decide)]
  rfl
theorem mn_11 {l : Nat → Nat} {x : Nat} : mnN l 1 1 x 4 = 0 + jA 1 x * shN l 1 1 := by
  rw [show mnN l 1 1 x 4 = mnN l 1 1 x 2 from mn_run (s := 2) 2 (by decide)]
  rw [show mnN l 1 1 x 2 = mnN l 1 1 x 1 + jA 1 x * shN l 1 1 from mn_hit (s := 1) (by decide)]
  rw [show mnN l 1 1 x 1 = mnN l 1 1 x 0 from mn_run (s := 0) 1 (by decide)]
  rfl
theorem sm_12 {l : Nat → Nat} : smN l 1 2 4 = 0 + shN l 2 1 := by
  rw [show smN l 1 2 4 = smN l 1 2 3 from sm_run (s := 3) 1 (by decide)]
  rw [show smN l 1 2 3 = smN l 1 2 2 + shN l 2 1 from sm_hit (s := 2) (by decide)]
  rw [show smN l 1 2 2 = smN l 1 2 0 from sm_run (s := 0) 2 (by decide)]
  rfl
theorem mn_12 {l : Nat → Nat} {x : Nat} : mnN l 1 2 x 4 = 0 + jA 2 x * shN l 2 1 := by
  rw [show mnN l 1 2 x 4 = mnN l 1 2 x 3 from mn_run (s := 3) 1 (by decide)]
  rw [show mnN l 1 2 x 3 = mnN l 1 2 x 2 + jA 2 x * shN l 2 1 from mn_hit (s := 2) (by decide)]
  rw [show mnN l 1 2 x 2 = mnN l 1 2 x 0 from mn_run (s := 0) 2 (by decide)]
  rfl
theorem sm_21 {l : Nat → Nat} : smN l 2 1 16 = 0 + shN l 1 2 + shN l 4 2 := by
  rw [show smN l 2 1 16 = smN l 2 1 5 from sm_run (s := 5) 11 (by decide)]
  rw [show smN l 2 1 5 = smN l 2 1 4 + shN l 4 2 from sm_hit (s := 4) (by decide)]
  rw [show smN l 2 1 4 = smN l 2 1 2 from sm_run (s := 2) 2 (by decide)]
  rw [show smN l 2 1 2 = smN l 2 1 1 + shN l 1 2 from sm_hit (s := 1) (by decide)]
  rw [show smN l 2 1 1 = smN l 2 1 0 from sm_run (s := 0) 1 (by decide)]
  rfl
theorem mn_21 {l : Nat → Nat} {x : Nat} : mnN l 2 1 x 16 = 0 + jA 1 x * shN l 1 2 + jA 4 x * shN l 4 2 := by
  rw [show mnN l 2 1 x 16 = mnN l 2 1 x 5 from mn_run (s := 5) 11 (by decide)]
  rw [show mnN l 2 1 x 5 = mnN l 2 1 x 4 + jA 4 x * shN l 4 2 from mn_hit (s := 4) (by decide)]
  rw [show mnN l 2 1 x 4 = mnN l 2 1 x 2 from mn_run (s := 2) 2 (by decide)]
  rw [show mnN l 2 1 x 2 = mnN l 2 1 x 1 + jA 1 x * shN l 1 2 from mn_hit (s := 1) (by decide)]
  rw [show mnN l 2 1 x 1 = mnN l 2 1 x 0 from mn_run (s := 0) 1 (by decide)]
  rfl
theorem sm_22 {l : Nat → Nat} : smN l 2 2 16 = 0 + shN l 2 2 + shN l 5 2 + shN l 8 2 := by
  rw [show smN l 2 2 16 = smN l 2 2 9 from sm_run (s := 9) 7 (by decide)]
  rw [show smN l 2 2 9 = smN l 2 2 8 + shN l 8 2 from sm_hit (s := 8) (by decide)]
  rw [show smN l 2 2 8 = smN l 2 2 6 from sm_run (s := 6) 2 (by decide)]
  rw [show smN l 2 2 6 = smN l 2 2 5 + shN l 5 2 from sm_hit (s := 5) (by decide)]
  rw [show smN l 2 2 5 = smN l 2 2 3 from sm_run (s := 3) 2 (by decide)]
  rw [show smN l 2 2 3 = smN l 2 2 2 + shN l 2 2 from sm_hit (s := 2) (by decide)]
  rw [show smN l 2 2 2 = smN l 2 2 0 from sm_run (s := 0) 2 (by decide)]
  rfl
theorem mn_22 {l : Nat → Nat} {x : Nat} : mnN l 2 2 x 16 = 0 + jA 2 x * shN l 2 2 + jA 5 x * shN l 5 2 + jA 8 x * shN l 8 2 := by
  rw [show mnN l 2 2 x 16 = mnN l 2 2 x 9 from mn_run (s := 9) 7 (by decide)]
  rw [show mnN l 2 2 x 9 = mnN l 2 2 x 8 + jA 8 x * shN l 8 2 from mn_hit (s := 8) (by decide)]
  rw [show mnN l 2 2 x 8 = mnN l 2 2 x 6 from mn_run (s := 6) 2 (by decide)]
  rw [show mnN l 2 2 x 6 = mnN l 2 2 x 5 + jA 5 x * shN l 5 2 from mn_hit (s := 5) (by decide)]
  rw [show mnN l 2 2 x 5 = mnN l 2 2 x 3 from mn_run (s := 3) 2 (by decide)]
  rw [show mnN l 2 2 x 3 = mnN l 2 2 x 2 + jA 2 x * shN l 2 2 from mn_hit (s := 2) (by decide)]
  rw [show mnN l 2 2 x 2 = mnN l 2 2 x 0 from mn_run (s := 0) 2 (by decide)]
  rfl
theorem sm_31 {l : Nat → Nat} : smN l 3 1 64 = 0 + shN l 1 3 + shN l 4 3 + shN l 16 3 := by
  rw [show smN l 3 1 64 = smN l 3 1 17 from sm_run (s := 17) 47 (by decide)]
  rw [show smN l 3 1 17 = smN l 3 1 16 + shN l 16 3 from sm_hit (s := 16) (by decide)]
  rw [show smN l 3 1 16 = smN l 3 1 5 from sm_run (s := 5) 11 (by decide)]
  rw [show smN l 3 1 5 = smN l 3 1 4 + shN l 4 3 from sm_hit (s := 4) (by decide)]
  rw [show smN l 3 1 4 = smN l 3 1 2 from sm_run (s := 2) 2 (by decide)]
  rw [show smN l 3 1 2 = smN l 3 1 1 + shN l 1 3 from sm_hit (s := 1) (by decide)]
  rw [show smN l 3 1 1 = smN l 3 1 0 from sm_run (s := 0) 1 (by decide)]
  rfl
theorem mn_31 {l : Nat → Nat} {x : Nat} : mnN l 3 1 x 64 = 0 + jA 1 x * shN l 1 3 + jA 4 x * shN l 4 3 + jA 16 x * shN l 16 3 := by
  rw [show mnN l 3 1 x 64 = mnN l 3 1 x 17 from mn_run (s := 17) 47 (by decide)]
  rw [show mnN l 3 1 x 17 = mnN l 3 1 x 16 + jA 16 x * shN l 16 3 from mn_hit (s := 16) (by decide)]
  rw [show mnN l 3 1 x 16 = mnN l 3 1 x 5 from mn_run (s := 5) 11 (by decide)]
  rw [show mnN l 3 1 x 5 = mnN l 3 1 x 4 + jA 4 x * shN l 4 3 from mn_hit (s := 4) (by decide)]
  rw [show mnN l 3 1 x 4 = mnN l 3 1 x 2 from mn_run (s := 2) 2 (by decide)]
  rw [show mnN l 3 1 x 2 = mnN l 3 1 x 1 + jA 1 x * shN l 1 3 from mn_hit (s := 1) (by decide)]
  rw [show mnN l 3 1 x 1 = mnN l 3 1 x 0 from mn_run (s := 0) 1 (by decide)]
  rfl
theorem sm_32 {l : Nat → Nat} : smN l 3 2 64 = 0 + shN l 2 3 + shN l 5 3 + shN l 8 3 + shN l 17 3 + shN l 20 3 + shN l 32 3 := by
  rw [show smN l 3 2 64 = smN l 3 2 33 from sm_run (s := 33) 31 (by decide)]
  rw [show smN l 3 2 33 = smN l 3 2 32 + shN l 32 3 from sm_hit (s := 32) (by decide)]
  rw [show smN l 3 2 32 = smN l 3 2 21 from sm_run (s := 21) 11 (by decide)]
  rw [show smN l 3 2 21 = smN l 3 2 20 + shN l 20 3 from sm_hit (s := 20) (by decide)]
  rw [show smN l 3 2 20 = smN l 3 2 18 from sm_run (s := 18) 2 (by decide)]
  rw [show smN l 3 2 18 = smN l 3 2 17 + shN l 17 3 from sm_hit (s := 17) (by decide)]
  rw [show smN l 3 2 17 = smN l 3 2 9 from sm_run (s := 9) 8 (by decide)]
  rw [show smN l 3 2 9 = smN l 3 2 8 + shN l 8 3 from sm_hit (s := 8) (by decide)]
  rw [show smN l 3 2 8 = smN l 3 2 6 from sm_run (s := 6) 2 (by decide)]
  rw [show smN l 3 2 6 = smN l 3 2 5 + shN l 5 3 from sm_hit (s := 5) (by decide)]
  rw [show smN l 3 2 5 = smN l 3 2 3 from sm_run (s := 3) 2 (by decide)]
  rw [show smN l 3 2 3 = smN l 3 2 2 + shN l 2 3 from sm_hit (s := 2) (by decide)]
  rw [show smN l 3 2 2 = smN l 3 2 0 from sm_run (s := 0) 2 (by decide)]
  rfl
theorem mn_32 {l : Nat → Nat} {x : Nat} : mnN l 3 2 x 64 = 0 + jA 2 x * shN l 2 3 + jA 5 x * shN l 5 3 + jA 8 x * shN l 8 3 + jA 17 x * shN l 17 3 + jA 20 x * shN l 20 3 + jA 32 x * shN l 32 3 := by
  rw [show mnN l 3 2 x 64 = mnN l 3 2 x 33 from mn_run (s := 33) 31 (by decide)]
  rw [show mnN l 3 2 x 33 = mnN l 3 2 x 32 + jA 32 x * shN l 32 3 from mn_hit (s := 32) (by decide)]
  rw [show mnN l 3 2 x 32 = mnN l 3 2 x 21 from mn_run (s := 21) 11 (by decide)]
  rw [show mnN l 3 2 x 21 = mnN l 3 2 x 20 + jA 20 x * shN l 20 3 from mn_hit (s := 20) (by decide)]
  rw [show mnN l 3 2 x 20 = mnN l 3 2 x 18 from mn_run (s := 18) 2 (by decide)]
  rw [show mnN l 3 2 x 18 = mnN l 3 2 x 17 + jA 17 x * shN l 17 3 from mn_hit (s := 17) (by decide)]
  rw [show mnN l 3 2 x 17 = mnN l 3 2 x 9 from mn_run (s := 9) 8 (by decide)]
  rw [show mnN l 3 2 x 9 = mnN l 3 2 x 8 + jA 8 x * shN l 8 3 from mn_hit (s := 8) (by decide)]
  rw [show mnN l 3 2 x 8 = mnN l 3 2 x 6 from mn_run (s := 6) 2 (by decide)]
  rw [show mnN l 3 2 x 6 = mnN l 3 2 x 5 + jA 5 x * shN l 5 3 from mn_hit (s := 5) (by decide)]
  rw [show mnN l 3 2 x 5 = mnN l 3 2 x 3 from mn_run (s := 3) 2 (by decide)]
  rw [show mnN l 3 2 x 3 = mnN l 3 2 x 2 + jA 2 x * shN l 2 3 from mn_hit (s := 2) (by decide)]
  rw [show mnN l 3 2 x 2 = mnN l 3 2 x 0 from mn_run (s := 0) 2 (by decide)]
  rfl
theorem sh_1_1 {l : Nat → Nat} : shN l 1 1 = 1 * l 0 ^ 1 := rfl
theorem sh_1_2 {l : Nat → Nat} : shN l 2 1 = 1 * l 0 ^ 2 := rfl
theorem sh_2_1 {l : Nat → Nat} : shN l 1 2 = 1 * l 0 ^ 1 * l 1 ^ 0 := rfl
theorem sh_2_2 {l : Nat → Nat} : shN l 2 2 = 1 * l 0 ^ 2 * l 1 ^ 0 := rfl
theorem sh_2_4 {l : Nat → Nat} : shN l 4 2 = 1 * l 0 ^ 0 * l 1 ^ 1 := rfl
theorem sh_2_5 {l : Nat → Nat} : shN l 5 2 = 1 * l 0 ^ 1 * l 1 ^ 1 := rfl
theorem sh_2_8 {l : Nat → Nat} : shN l 8 2 = 1 * l 0 ^ 0 * l 1 ^ 2 := rfl
theorem sh_3_1 {l : Nat → Nat} : shN l 1 3 = 1 * l 0 ^ 1 * l 1 ^ 0 * l 2 ^ 0 := rfl
theorem sh_3_2 {l : Nat → Nat} : shN l 2 3 = 1 * l 0 ^ 2 * l 1 ^ 0 * l 2 ^ 0 := rfl
theorem sh_3_4 {l : Nat → Nat} : shN l 4 3 = 1 * l 0 ^ 0 * l 1 ^ 1 * l 2 ^ 0 := rfl
theorem sh_3_5 {l : Nat → Nat} : shN l 5 3 = 1 * l 0 ^ 1 * l 1 ^ 1 * l 2 ^ 0 := rfl
theorem sh_3_8 {l : Nat → Nat} : shN l 8 3 = 1 * l 0 ^ 0 * l 1 ^ 2 * l 2 ^ 0 := rfl
theorem sh_3_16 {l : Nat → Nat} : shN l 16 3 = 1 * l 0 ^ 0 * l 1 ^ 0 * l 2 ^ 1 := rfl
theorem sh_3_17 {l : Nat → Nat} : shN l 17 3 = 1 * l 0 ^ 1 * l 1 ^ 0 * l 2 ^ 1 := rfl
theorem sh_3_20 {l : Nat → Nat} : shN l 20 3 = 1 * l 0 ^ 0 * l 1 ^ 1 * l 2 ^ 1 := rfl
theorem sh_3_32 {l : Nat → Nat} : shN l 32 3 = 1 * l 0 ^ 0 * l 1 ^ 0 * l 2 ^ 2 := rfl
theorem fo_11 {l : Nat → Nat} : (fO 1 1 l 1 0 s00).1 = smN l 1 1 4 := by
  rw [sm_11, sh_1_1]
  show 0 + wJ 1 l 0 0 = _
  simp only [wJ_1]
  grind
theorem fm_11_0 {l : Nat → Nat} : (fO 1 1 l 1 0 s00).2 0 = mnN l 1 1 0 4 := by
  have e : mnN l 1 1 0 4 = 0 + 1 * shN l 1 1 := mn_11
  rw [e, sh_1_1]
  show 0 + wJ 1 l 0 0 + 0 = _
  simp only [wJ_1]
  grind
theorem fo_12 {l : Nat → Nat} : (fO 2 1 l 1 0 s00).1 = smN l 1 2 4 := by
  rw [sm_12, sh_1_2]
  show 0 + wJ 2 l 0 0 = _
  simp only [wJ_2]
  grind
theorem fm_12_0 {l : Nat → Nat} : (fO 2 1 l 1 0 s00).2 0 = mnN l 1 2 0 4 := by
  have e : mnN l 1 2 0 4 = 0 + 2 * shN l 2 1 := mn_12
  rw [e, sh_1_2]
  show 0 + wJ 2 l 0 0 + wJ 2 l 0 0 = _
  simp only [wJ_2]
  grind
theorem fo_21 {l : Nat → Nat} : (fO 1 2 l 2 0 s00).1 = smN l 2 1 16 := by
  rw [sm_21, sh_2_1, sh_2_4]
  show 0 + wJ 1 l 0 0 + wJ 1 l 1 1 = _
  simp only [wJ_1]
  grind
theorem fm_21_0 {l : Nat → Nat} : (fO 1 2 l 2 0 s00).2 0 = mnN l 2 1 0 16 := by
  have e : mnN l 2 1 0 16 = 0 + 1 * shN l 1 2 + 0 * shN l 4 2 := mn_21
  rw [e, sh_2_1, sh_2_4]
  show 0 + wJ 1 l 0 0 + 0 + 0 + 0 = _
  simp only [wJ_1]
  grind
theorem fm_21_1 {l : Nat → Nat} : (fO 1 2 l 2 0 s00).2 1 = mnN l 2 1 1 16 := by
  have e : mnN l 2 1 1 16 = 0 + 0 * shN l 1 2 + 1 * shN l 4 2 := mn_21
  rw [e, sh_2_1, sh_2_4]
  show 0 + 0 + 0 + wJ 1 l 1 1 + 0 = _
  simp only [wJ_1]
  grind
theorem fo_22 {l : Nat → Nat} : (fO 2 2 l 2 0 s00).1 = smN l 2 2 16 := by
  rw [sm_22, sh_2_2, sh_2_5, sh_2_8]
  show 0 + wJ 2 l 0 0 + wJ 2 l 0 1 + wJ 2 l 1 1 = _
  simp only [wJ_2]
  grind
theorem fm_22_0 {l : Nat → Nat} : (fO 2 2 l 2 0 s00).2 0 = mnN l 2 2 0 16 := by
  have e : mnN l 2 2 0 16 = 0 + 2 * shN l 2 2 + 1 * shN l 5 2 + 0 * shN l 8 2 := mn_22
  rw [e, sh_2_2, sh_2_5, sh_2_8]
  show 0 + wJ 2 l 0 0 + wJ 2 l 0 0 + wJ 2 l 0 1 + 0 + 0 + 0 = _
  simp only [wJ_2]
  grind
theorem fm_22_1 {l : Nat → Nat} : (fO 2 2 l 2 0 s00).2 1 = mnN l 2 2 1 16 := by
  have e : mnN l 2 2 1 16 = 0 + 0 * shN l 2 2 + 1 * shN l 5 2 + 2 * shN l 8 2 := mn_22
  rw [e, sh_2_2, sh_2_5, sh_2_8]
  show 0 + 0 + 0 + 0 + wJ 2 l 0 1 + wJ 2 l 1 1 + wJ 2 l 1 1 = _
  simp only [wJ_2]
  grind
theorem fo_31 {l : Nat → Nat} : (fO 1 3 l 3 0 s00).1 = smN l 3 1 64 := by
  rw [sm_31, sh_3_1, sh_3_4, sh_3_16]
  show 0 + wJ 1 l 0 0 + wJ 1 l 1 1 + wJ 1 l 2 2 = _
  simp only [wJ_1]
  grind
theorem fm_31_0 {l : Nat → Nat} : (fO 1 3 l 3 0 s00).2 0 = mnN l 3 1 0 64 := by
  have e : mnN l 3 1 0 64 = 0 + 1 * shN l 1 3 + 0 * shN l 4 3 + 0 * shN l 16 3 := mn_31
  rw [e, sh_3_1, sh_3_4, sh_3_16]
  show 0 + wJ 1 l 0 0 + 0 + 0 + 0 + 0 + 0 = _
  simp only [wJ_1]
  grind
theorem fm_31_1 {l : Nat → Nat} : (fO 1 3 l 3 0 s00).2 1 = mnN l 3 1 1 64 := by
  have e : mnN l 3 1 1 64 = 0 + 0 * shN l 1 3 + 1 * shN l 4 3 + 0 * shN l 16 3 := mn_31
  rw [e, sh_3_1, sh_3_4, sh_3_16]
  show 0 + 0 + 0 + wJ 1 l 1 1 + 0 + 0 + 0 = _
  simp only [wJ_1]
  grind
theorem fm_31_2 {l : Nat → Nat} : (fO 1 3 l 3 0 s00).2 2 = mnN l 3 1 2 64 := by
  have e : mnN l 3 1 2 64 = 0 + 0 * shN l 1 3 + 0 * shN l 4 3 + 1 * shN l 16 3 := mn_31
  rw [e, sh_3_1, sh_3_4, sh_3_16]
  show 0 + 0 + 0 + 0 + 0 + wJ 1 l 2 2 + 0 = _
  simp only [wJ_1]
  grind
theorem fo_32 {l : Nat → Nat} : (fO 2 3 l 3 0 s00).1 = smN l 3 2 64 := by
  rw [sm_32, sh_3_2, sh_3_5, sh_3_8, sh_3_17, sh_3_20, sh_3_32]
  show 0 + wJ 2 l 0 0 + wJ 2 l 0 1 + wJ 2 l 0 2 + wJ 2 l 1 1 + wJ 2 l 1 2 + wJ 2 l 2 2 = _
  simp only [wJ_2]
  grind
theorem fm_32_0 {l : Nat → Nat} : (fO 2 3 l 3 0 s00).2 0 = mnN l 3 2 0 64 := by
  have e : mnN l 3 2 0 64 = 0 + 2 * shN l 2 3 + 1 * shN l 5 3 + 0 * shN l 8 3 + 1 * shN l 17 3 + 0 * shN l 20 3 + 0 * shN l 32 3 := mn_32
  rw [e, sh_3_2, sh_3_5, sh_3_8, sh_3_17, sh_3_20, sh_3_32]
  show 0 + wJ 2 l 0 0 + wJ 2 l 0 0 + wJ 2 l 0 1 + 0 + wJ 2 l 0 2 + 0 + 0 + 0 + 0 + 0 + 0 + 0 = _
  simp only [wJ_2]
  grind
theorem fm_32_1 {l : Nat → Nat} : (fO 2 3 l 3 0 s00).2 1 = mnN l 3 2 1 64 := by
  have e : mnN l 3 2 1 64 = 0 + 0 * shN l 2 3 + 1 * shN l 5 3 + 2 * shN l 8 3 + 0 * shN l 17 3 + 1 * shN l 20 3 + 0 * shN l 32 3 := mn_32
  rw [e, sh_3_2, sh_3_5, sh_3_8, sh_3_17, sh_3_20, sh_3_32]
  show 0 + 0 + 0 + 0 + wJ 2 l 0 1 + 0 + 0 + wJ 2 l 1 1 + wJ 2 l 1 1 + wJ 2 l 1 2 + 0 + 0 + 0 = _
  simp only [wJ_2]
  grind
theorem fm_32_2 {l : Nat → Nat} : (fO 2 3 l 3 0 s00).2 2 = mnN l 3 2 2 64 := by
  have e : mnN l 3 2 2 64 = 0 + 0 * shN l 2 3 + 0 * shN l 5 3 + 0 * shN l 8 3 + 1 * shN l 17 3 + 1 * shN l 20 3 + 2 * shN l 32 3 := mn_32
  rw [e, sh_3_2, sh_3_5, sh_3_8, sh_3_17, sh_3_20, sh_3_32]
  show 0 + 0 + 0 + 0 + 0 + 0 + wJ 2 l 0 2 + 0 + 0 + 0 + wJ 2 l 1 2 + wJ 2 l 2 2 + wJ 2 l 2 2 = _
  simp only [wJ_2]
  grind
theorem fo_is {n J : Nat} {l : Nat → Nat} (hn : 1 ≤ n ∧ n ≤ 3) (hJ : J = 1 ∨ J = 2) : (fO J n l n 0 s00).1 = smN l n J (4 ^ n) ∧ ∀ x, x < n → (fO J n l n 0 s00).2 x = mnN l n J x (4 ^ n) := by
  rcases (show n = 1 ∨ n = 2 ∨ n = 3 by omega) with rfl | rfl | rfl <;> rcases hJ with rfl | rfl
  · refine ⟨fo_11, fun x hx => ?_⟩
    obtain rfl : x = 0 := by omega
    exact fm_11_0
  · refine ⟨fo_12, fun x hx => ?_⟩
    obtain rfl : x = 0 := by omega
    exact fm_12_0
  · refine ⟨fo_21, fun x hx => ?_⟩
    rcases (show x = 0 ∨ x = 1 by omega) with rfl | rfl
    · exact fm_21_0
    · exact fm_21_1
  · refine ⟨fo_22, fun x hx => ?_⟩
    rcases (show x = 0 ∨ x = 1 by omega) with rfl | rfl
    · exact fm_22_0
    · exact fm_22_1
  · refine ⟨fo_31, fun x hx => ?_⟩
    rcases (show x = 0 ∨ x = 1 ∨ x = 2 by omega) with rfl | rfl | rfl
    · exact fm_31_0
    · exact fm_31_1
    · exact fm_31_2
  · refine ⟨fo_32, fun x hx => ?_⟩
    rcases (show x = 0 ∨ x = 1 ∨ x = 2 by omega) with rfl | rfl | rfl
    · exact fm_32_0
    · exact fm_32_1
    · exact fm_32_2
theorem fo_r {n J B : Nat} {l : Nat → Nat} (hn : 1 ≤ n ∧ n ≤ 3) (hJ : J = 1 ∨ J = 2) (hB : 1 ≤ B) (h : ∀ k, k < n → l k ≤ B) : (fO J n l n 0 s00).1 ≤ 6 * (B * B) ∧ ∀ x, x < n → (fO J n l n 0 s00).2 x ≤ 4 * (B * B) := by
  have hw : ∀ a b, a < n → b < n → wJ J l a b ≤ B * B := fun a b ha hb => by
    have h1 := h a ha
    have h2 := h b hb
    rcases hJ with rfl | rfl
    · rw [wJ_1]
      exact Nat.le_trans h1 (Nat.le_mul_of_pos_left B (by omega))
    · rw [wJ_2]
      exact Nat.mul_le_mul h1 h2
  generalize B * B = W at *
  rcases (show n = 1 ∨ n = 2 ∨ n = 3 by omega) with rfl | rfl | rfl <;> rcases hJ with rfl | rfl
  · have w00 := hw 0 0 (by decide) (by decide)
    refine ⟨?_, fun x hx => ?_⟩
    · show 0 + wJ 1 l 0 0 ≤ _
      omega
    · obtain rfl : x = 0 := by omega
      show 0 + wJ 1 l 0 0 + 0 ≤ _
      omega
  · have w00 := hw 0 0 (by decide) (by decide)
    refine ⟨?_, fun x hx => ?_⟩
    · show 0 + wJ 2 l 0 0 ≤ _
      omega
    · obtain rfl : x = 0 := by omega
      show 0 + wJ 2 l 0 0 + wJ 2 l 0 0 ≤ _
      omega
  · have w00 := hw 0 0 (by decide) (by decide)
    have w11 := hw 1 1 (by decide) (by decide)
    refine ⟨?_, fun x hx => ?_⟩
    · show 0 + wJ 1 l 0 0 + wJ 1 l 1 1 ≤ _
      omega
    · rcases (show x = 0 ∨ x = 1 by omega) with rfl | rfl
      · show 0 + wJ 1 l 0 0 + 0 + 0 + 0 ≤ _
        omega
      · show 0 + 0 + 0 + wJ 1 l 1 1 + 0 ≤ _
        omega
  · have w00 := hw 0 0 (by decide) (by decide)
    have w01 := hw 0 1 (by decide) (by decide)
    have w11 := hw 1 1 (by decide) (by decide)
    refine ⟨?_, fun x hx => ?_⟩
    · show 0 + wJ 2 l 0 0 + wJ 2 l 0 1 + wJ 2 l 1 1 ≤ _
      omega
    · rcases (show x = 0 ∨ x = 1 by omega) with rfl | rfl
      · show 0 + wJ 2 l 0 0 + wJ 2 l 0 0 + wJ 2 l 0 1 + 0 + 0 + 0 ≤ _
        omega
      · show 0 + 0 + 0 + 0 + wJ 2 l 0 1 + wJ 2 l 1 1 + wJ 2 l 1 1 ≤ _
        omega
  · have w00 := hw 0 0 (by decide) (by decide)
    have w11 := hw 1 1 (by decide) (by decide)
    have w22 := hw 2 2 (by decide) (by decide)
    refine ⟨?_, fun x hx => ?_⟩
    · show 0 + wJ 1 l 0 0 + wJ 1 l 1 1 + wJ 1 l 2 2 ≤ _
      omega
    · rcases (show x = 0 ∨ x = 1 ∨ x = 2 by omega) with rfl | rfl | rfl
      · show 0 + wJ 1 l 0 0 + 0 + 0 + 0 + 0 + 0 ≤ _
        omega
      · show 0 + 0 + 0 + wJ 1 l 1 1 + 0 + 0 + 0 ≤ _
        omega
      · show 0 + 0 + 0 + 0 + 0 + wJ 1 l 2 2 + 0 ≤ _
        omega
  · have w00 := hw 0 0 (by decide) (by decide)
    have w01 := hw 0 1 (by decide) (by decide)
    have w02 := hw 0 2 (by decide) (by decide)
    have w11 := hw 1 1 (by decide) (by decide)
    have w12 := hw 1 2 (by decide) (by decide)
    have w22 := hw 2 2 (by decide) (by decide)
    refine ⟨?_, fun x hx => ?_⟩
    · show 0 + wJ 2 l 0 0 + wJ 2 l 0 1 + wJ 2 l 0 2 + wJ 2 l 1 1 + wJ 2 l 1 2 + wJ 2 l 2 2 ≤ _
      omega
    · rcases (show x = 0 ∨ x = 1 ∨ x = 2 by omega) with rfl | rfl | rfl
      · show 0 + wJ 2 l 0 0 + wJ 2 l 0 0 + wJ 2 l 0 1 + 0 + wJ 2 l 0 2 + 0 + 0 + 0 + 0 + 0 + 0 + 0 ≤ _
        omega
      · show 0 + 0 + 0 + 0 + wJ 2 l 0 1 + 0 + 0 + wJ 2 l 1 1 + wJ 2 l 1 1 + wJ 2 l 1 2 + 0 + 0 + 0 ≤ _
        omega
      · show 0 + 0 + 0 + 0 + 0 + 0 + wJ 2 l 0 2 + 0 + 0 + 0 + wJ 2 l 1 2 + wJ 2 l 2 2 + wJ 2 l 2 2 ≤ _
        omega
