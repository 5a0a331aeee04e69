/-! Weights: who leaves at last. -/
def pLv (P : Nat → Nat → Rat) (n : Nat) (mb : Nat → Bool) : Nat → Nat → Rat
  | 0 => fun _ => 1
  | t + 1 => fun i => sumQ (fun j => if mb j = true then P i j * pLv P n mb t j else 0) n
def Stoch (P : Nat → Nat → Rat) (n : Nat) : Prop := (∀ i j, i < n → j < n → 0 ≤ P i j) ∧ ∀ i, i < n → sumQ (P i) n ≤ 1
theorem pLv_r {P : Nat → Nat → Rat} {n : Nat} {mb : Nat → Bool} (h : Stoch P n) : ∀ t i, i < n → 0 ≤ pLv P n mb t i ∧ pLv P n mb t i ≤ 1 := by
  intro t
  induction t with
  | zero => intro i _; show (0 : Rat) ≤ 1 ∧ (1 : Rat) ≤ 1; exact ⟨by decide, Rat.le_refl⟩
  | succ t ih =>
    intro i hi
    refine ⟨sumQ_nonneg n fun j hj => ?_, ?_⟩
    · by_cases e : mb j = true
      · rw [if_pos e]; exact Rat.mul_nonneg (h.1 i j hi hj) (ih j hj).1
      · rw [if_neg e]; exact Rat.le_refl
    · refine Rat.le_trans (sumQ_le n fun j hj => ?_) (h.2 i hi)
      have h0 := h.1 i j hi hj
      by_cases e : mb j = true
      · rw [if_pos e]
        have := Rat.mul_le_mul_of_nonneg_left (ih j hj).2 h0
        grind
      · rw [if_neg e]; exact h0
theorem pLv_down {P : Nat → Nat → Rat} {n : Nat} {mb : Nat → Bool} (h : Stoch P n) : ∀ t i, i < n → pLv P n mb (t + 1) i ≤ pLv P n mb t i := by
  intro t
  induction t with
  | zero => intro i hi; exact (pLv_r h 1 i hi).2
  | succ t ih =>
    intro i hi
    refine sumQ_le n fun j hj => ?_
    by_cases e : mb j = true
    · rw [if_pos e, if_pos e]; exact Rat.mul_le_mul_of_nonneg_left (ih j hj) (h.1 i j hi hj)
    · rw [if_neg e, if_neg e]; exact Rat.le_refl
theorem pLv_le {P : Nat → Nat → Rat} {n : Nat} {mb : Nat → Bool} (h : Stoch P n) {i : Nat} (hi : i < n) {s : Nat} : ∀ t, s ≤ t → pLv P n mb t i ≤ pLv P n mb s i := by
  intro t
  induction t with
  | zero => intro e; rw [show s = 0 by omega]; exact Rat.le_refl
  | succ t ih =>
    intro e
    by_cases e2 : s = t + 1
    · rw [e2]; exact Rat.le_refl
    · exact Rat.le_trans (pLv_down h t i hi) (ih (by omega))
/-- at last it may have left -/
def Go (P : Nat → Nat → Rat) (n : Nat) (mb : Nat → Bool) (i : Nat) : Prop := ∃ t, pLv P n mb t i < 1
theorem sum_strict {f g : Nat → Rat} {m r : Nat} (h : ∀ k, k < m → f k ≤ g k) (hr : r < m) (hs : f r < g r) : sumQ f m < sumQ g m := by
  have h1 := sumQ_pos (f := fun k => g k - 1 * f k) (r := r) m (fun k hk => by have := h k hk; show 0 ≤ g k - 1 * f k; grind) hr (by show 0 < g r - 1 * f r; grind)
  rw [sumQ_lin] at h1
  grind
theorem Go.exit {P : Nat → Nat → Rat} {n : Nat} {mb : Nat → Bool} (h : Stoch P n) {i : Nat} (hi : i < n) (hs : sumQ (P i) n < 1) : Go P n mb i := by
  refine ⟨1, ?_⟩
  have : pLv P n mb 1 i ≤ sumQ (P i) n := sumQ_le n fun j hj => by
    have h0 := h.1 i j hi hj
    show (if mb j = true then P i j * 1 else 0) ≤ P i j
    by_cases e : mb j = true
    · rw [if_pos e]; grind
    · rw [if_neg e]; exact h0
  grind
theorem Go.out {P : Nat → Nat → Rat} {n : Nat} {mb : Nat → Bool} (h : Stoch P n) {i j : Nat} (hi : i < n) (hj : j < n) (hp : 0 < P i j) (hm : mb j = false) : Go P n mb i := by
  refine ⟨1, ?_⟩
  have : pLv P n mb 1 i < sumQ (P i) n := sum_strict (fun k hk => by
    have h0 := h.1 i k hi hk
    show (if mb k = true then P i k * 1 else 0) ≤ P i k
    by_cases e : mb k = true
    · rw [if_pos e]; grind
    · rw [if_neg e]; exact h0) hj (by
    show (if mb j = true then P i j * 1 else 0) < P i j
    rw [hm, if_neg (by decide)]; exact hp)
  have := h.2 i hi
  grind
theorem Go.back {P : Nat → Nat → Rat} {n : Nat} {mb : Nat → Bool} (h : Stoch P n) {i j : Nat} (hi : i < n) (hj : j < n) (hp : 0 < P i j) (hg : Go P n mb j) : Go P n mb i := by
  obtain ⟨t, ht⟩ := hg
  refine ⟨t + 1, ?_⟩
  have : pLv P n mb (t + 1) i < sumQ (P i) n := sum_strict (fun k hk => by
    have h0 := h.1 i k hi hk
    by_cases e : mb k = true
    · rw [if_pos e]
      have := Rat.mul_le_mul_of_nonneg_left (pLv_r (mb := mb) h t k hk).2 h0
      grind
    · rw [if_neg e]; exact h0) hj (by
    by_cases e : mb j = true
    · rw [if_pos e]
      have := Rat.mul_lt_mul_of_pos_left ht hp
      grind
    · rw [if_neg e]; exact hp)
  have := h.2 i hi
  grind
theorem Go.rch {P : Nat → Nat → Rat} {n : Nat} {mb : Nat → Bool} {E : Nat → Nat → Prop} (h : Stoch P n) (hE : ∀ k l, E k l → k < n ∧ l < n ∧ 0 < P k l) {i w : Nat} (hi : mb i = true) (hr : Rch E i w) (hw : mb w = false) : Go P n mb i := by
  refine Classical.byContradiction fun hn => ?_
  have := hr (fun k => ¬ Go P n mb k ∧ mb k = true) ⟨hn, hi⟩ fun k l hk e => by
    obtain ⟨e1, e2, e3⟩ := hE k l e
    refine ⟨fun z => hk.1 (.back h e1 e2 e3 z), ?_⟩
    cases hm : mb l
    · exact absurd (Go.out h e1 e2 e3 hm) hk.1
    · rfl
  rw [hw] at this
  cases this.2
theorem Go.rchOut {P : Nat → Nat → Rat} {n : Nat} {mb : Nat → Bool} {E : Nat → Nat → Prop} (h : Stoch P n) (hE : ∀ k l, E k l → k < n ∧ l < n ∧ 0 < P k l) {i w : Nat} (hr : Rch E i w) (hw : Go P n mb w) : Go P n mb i := by
  refine Classical.byContradiction fun hn => ?_
  exact hr (fun k => ¬ Go P n mb k) hn (fun k l hk e => by
    obtain ⟨e1, e2, e3⟩ := hE k l e
    exact fun z => hk (.back h e1 e2 e3 z)) hw
theorem Go.all {P : Nat → Nat → Rat} {n : Nat} {mb : Nat → Bool} (h : Stoch P n) (hg : ∀ i, i < n → mb i = true → Go P n mb i) : ∀ k, k ≤ n → ∃ T, ∀ i, i < k → mb i = true → pLv P n mb T i < 1 := by
  intro k
  induction k with
  | zero => intro _; exact ⟨0, fun i h => absurd h (Nat.not_lt_zero _)⟩
  | succ k ih =>
    intro hk
    obtain ⟨T, hT⟩ := ih (by omega)
    cases hm : mb k
    · refine ⟨T, fun i hi hb => ?_⟩
      by_cases e : i = k
      · rw [e, hm] at hb; cases hb
      · exact hT i (by omega) hb
    · obtain ⟨s, hs⟩ := hg k (by omega) hm
      refine ⟨T + s, fun i hi hb => ?_⟩
      by_cases e : i = k
      · rw [e]
        have := pLv_le (mb := mb) h (show k < n by omega) (T + s) (show s ≤ T + s by omega)
        grind
      · have := pLv_le (mb := mb) h (show i < n by omega) (T + s) (show T ≤ T + s by omega)
        have := hT i (by omega) hb
        grind
def xL (P : Nat → Nat → Rat) (n : Nat) (mb : Nat → Bool) (T i : Nat) : Rat := sumQ (fun t => pLv P n mb t i) T
theorem xL_eq {P : Nat → Nat → Rat} {n : Nat} {mb : Nat → Bool} {i : Nat} : ∀ T, xL P n mb T i - sumQ (fun j => if mb j = true then P i j * xL P n mb T j else 0) n = 1 - pLv P n mb T i := by
  intro T
  induction T with
  | zero =>
    rw [sumQ_zero n fun j _ => ?_]
    · show (0 : Rat) - 0 = 1 - 1; grind
    · show (if mb j = true then P i j * 0 else 0) = 0
      by_cases e : mb j = true
      · rw [if_pos e]; grind
      · rw [if_neg e]
  | succ T ih =>
    have e : sumQ (fun j => if mb j = true then P i j * xL P n mb (T + 1) j else 0) n = sumQ (fun j => if mb j = true then P i j * xL P n mb T j else 0) n + pLv P n mb (T + 1) i := by
      show _ = _ + sumQ (fun j => if mb j = true then P i j * pLv P n mb T j else 0) n
      rw [← sumQ_add]
      refine sumQ_congr n fun j _ => ?_
      by_cases e : mb j = true
      · rw [if_pos e, if_pos e, if_pos e]
        show P i j * (xL P n mb T j + pLv P n mb T j) = _
        grind
      · rw [if_neg e, if_neg e, if_neg e]; grind
    rw [e]
    show xL P n mb T i + pLv P n mb T i - _ = _
    generalize sumQ (fun j => if mb j = true then P i j * xL P n mb T j else 0) n = u at *
    grind
/-- there are weights -/
theorem weigh {P : Nat → Nat → Rat} {n : Nat} {mb : Nat → Bool} (h : Stoch P n) (hg : ∀ i, i < n → mb i = true → Go P n mb i) : ∃ x : Nat → Rat, (∀ i, i < n → 0 < x i) ∧ ∀ i, i < n → mb i = true → sumQ (fun j => if mb j = true then P i j * x j else 0) n < x i := by
  obtain ⟨T, hT⟩ := Go.all h hg n (Nat.le_refl n)
  refine ⟨xL P n mb (T + 1), fun i hi => sumQ_pos (r := 0) (T + 1) (fun k _ => (pLv_r h k i hi).1) (by omega) (show (0 : Rat) < 1 by decide), fun i hi hm => ?_⟩
  have e := xL_eq (P := P) (n := n) (mb := mb) (i := i) (T + 1)
  have h1 := hT i hi hm
  have h2 := pLv_down (mb := mb) h T i hi
  grind
/-- the member at a place -/
def sel (s : Nat) : Nat → Nat → Nat
  | 0, _ => 0
  | k + 1, a => if s.testBit k = true ∧ cnt s k = a then k else sel s k a
theorem sel_cnt {s i : Nat} (hb : s.testBit i = true) : ∀ n, i < n → sel s n (cnt s i) = i := by
  intro n
  induction n with
  | zero => intro h; exact absurd h (Nat.not_lt_zero _)
  | succ n ih =>
    intro h
    show (if s.testBit n = true ∧ cnt s n = cnt s i then n else sel s n (cnt s i)) = i
    by_cases e : i = n
    · rw [e, if_pos ⟨by rw [← e]; exact hb, rfl⟩]
    · have := cnt_k_lt (show i < n by omega) hb
      rw [if_neg (fun z => by omega)]
      exact ih (by omega)
theorem sel_in {s n a : Nat} (h : a < cnt s n) : sel s n a < n ∧ s.testBit (sel s n a) = true ∧ cnt s (sel s n a) = a := by
  obtain ⟨i, h1, h2, h3⟩ := cnt_onto n a h
  have := sel_cnt h2 n h1
  rw [h3] at this
  rw [this]
  exact ⟨h1, h2, h3⟩
theorem sel_inj {s n a c : Nat} (ha : a < cnt s n) (hc : c < cnt s n) (h : sel s n a = sel s n c) : a = c := by
  have h1 := (sel_in ha).2.2
  have h2 := (sel_in hc).2.2
  rw [h] at h1
  omega
theorem sum_sel {s : Nat} {f : Nat → Rat} : ∀ n, sumQ (fun c => f (sel s n c)) (cnt s n) = sumQ (fun j => if s.testBit j = true then f j else 0) n := by
  intro n
  induction n with
  | zero => rfl
  | succ n ih =>
    show _ = sumQ (fun j => if s.testBit j = true then f j else 0) n + (if s.testBit n = true then f n else 0)
    rw [← ih]
    cases hb : s.testBit n
    · rw [cnt_no hb, if_neg (by decide), sumQ_congr (cnt s n) (g := fun c => f (sel s n c)) fun c hc => ?_]
      · grind
      · show f (if s.testBit n = true ∧ cnt s n = c then n else sel s n c) = f (sel s n c)
        rw [if_neg (fun z => by rw [hb] at z; cases z.1)]
    · rw [cnt_up hb, if_pos rfl]
      show sumQ (fun c => f (sel s (n + 1) c)) (cnt s n) + f (sel s (n + 1) (cnt s n)) = _
      rw [sel_cnt hb (n + 1) (by omega), sumQ_congr (cnt s n) (g := fun c => f (sel s n c)) fun c hc => ?_]
      show f (if s.testBit n = true ∧ cnt s n = c then n else sel s n c) = f (sel s n c)
      rw [if_neg (fun z => by omega)]
