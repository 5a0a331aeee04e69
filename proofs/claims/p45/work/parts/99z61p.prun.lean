/-! What the machine of tokens keeps. -/
theorem nv_r {t : Nat → Int} {s : Nat} : ∀ k, (∀ i, i < k → 48 ≤ t (s + i) ∧ t (s + i) ≤ 57) → 0 ≤ nv t s k ∧ nv t s k < 10 ^ k
  | 0, _ => ⟨Int.le_refl 0, by show (0 : Int) < 10 ^ 0; decide⟩
  | k + 1, h => by
    have h1 := nv_r k (fun i hi => h i (by omega))
    have h2 := h k (by omega)
    show 0 ≤ nv t s k * 10 + t (s + k) - 48 ∧ nv t s k * 10 + t (s + k) - 48 < 10 ^ (k + 1)
    rw [Int.pow_succ]
    omega
def pInv (n : Nat) (x : PX) : Prop := x.2.1 ≤ n ∧ ∀ i, R32 (x.2.2.2 i)
theorem sr_R32 {f : Nat → Int} {k : Nat} {v : Int} (h : ∀ i, R32 (f i)) (hv : R32 v) : ∀ i, R32 (sr f k v i) := fun i => by
  by_cases e : i = k
  · subst e; rw [sr_same]; exact hv
  · rw [sr_ne e]; exact h i
theorem pNum_inv {t : Nat → Int} {n st p s c : Nat} {T : Nat → Int} (hs : s < n) (h : ∀ i, R32 (T i)) : pInv n (pNum t n st p s c T) := by
  unfold pNum
  by_cases q : te t n s ≤ s + 4 ∧ isD (t s) = true
  · rw [if_pos q]
    refine ⟨skB_le (te_le hs), sr_R32 h ?_⟩
    have hte := te_digit hs q.2
    have := nv_r (t := t) (s := s) (te t n s - s) fun i hi => isD_iff.mp (rnn_in (P := isD) (t := t) (n := n) _ s (Nat.le_refl _) (s + i) (by omega) (by omega)).2
    have h2 : (10 : Int) ^ (te t n s - s) ≤ 10 ^ 4 := pw_mono (by decide) (by omega)
    have h3 : (10 : Int) ^ 4 = 10000 := by decide
    exact ⟨by omega, by omega⟩
  · rw [if_neg q]; exact ⟨Nat.le_of_lt hs, h⟩
theorem pEnd_inv {t : Nat → Int} {n s c : Nat} {T : Nat → Int} (hs : s < n) (h : ∀ i, R32 (T i)) : pInv n (pEnd t n s c T) := by
  unfold pEnd
  by_cases q : isW t 5 s (te t n s) = true
  · rw [if_pos q]; exact ⟨skB_le (te_le hs), h⟩
  · rw [if_neg q]; exact ⟨Nat.le_of_lt hs, h⟩
theorem pKind_inv {t : Nat → Int} {n s c : Nat} {T : Nat → Int} (hs : s < n) (h : ∀ i, R32 (T i)) : pInv n (pKind t n s c T) := by
  unfold pKind
  by_cases q : isW t 4 s (te t n s) = true
  · rw [if_pos q]; exact ⟨skB_le (te_le hs), h⟩
  · rw [if_neg q]; exact pEnd_inv hs h
theorem trn_inv {t : Nat → Int} {n : Nat} : ∀ (st s c : Nat) (T : Nat → Int), s < n → (∀ i, R32 (T i)) → pInv n (trn t n (st, s, c, T))
  | 0, s, c, T, hs, h => by
    show pInv n (if isW t 1 s (te t n s) = true then _ else _)
    by_cases q : isW t 1 s (te t n s) = true
    · rw [if_pos q]; exact ⟨skB_le (te_le hs), sr_R32 (sr_R32 h ⟨by decide, by decide⟩) ⟨by decide, by decide⟩⟩
    · rw [if_neg q]; exact ⟨Nat.le_of_lt hs, h⟩
  | 1, s, c, T, hs, h => pNum_inv hs h
  | 2, s, c, T, hs, h => by
    show pInv n (if isW t 2 s (te t n s) = true then _ else _)
    by_cases q : isW t 2 s (te t n s) = true
    · rw [if_pos q]; exact ⟨skB_le (te_le hs), h⟩
    · rw [if_neg q]; exact ⟨Nat.le_of_lt hs, h⟩
  | 3, s, c, T, hs, h => pNum_inv hs h
  | 4, s, c, T, hs, h => by
    show pInv n (if isW t 3 s (te t n s) = true then _ else _)
    by_cases q : isW t 3 s (te t n s) = true
    · rw [if_pos q]; exact ⟨skB_le (te_le hs), h⟩
    · rw [if_neg q]; exact pKind_inv hs h
  | 5, s, c, T, hs, h => pNum_inv hs h
  | 6, s, c, T, hs, h => pKind_inv hs h
  | 7, s, c, T, hs, h => pNum_inv hs h
  | 8, s, c, T, hs, h => pEnd_inv hs h
  | k + 9, s, c, T, hs, h => ⟨Nat.le_of_lt hs, h⟩
theorem stpN_inv {t : Nat → Int} {n : Nat} : ∀ (k : Nat) (x : PX), pInv n x → pInv n (stpN t n k x)
  | 0, _, h => h
  | k + 1, x, h => stpN_inv k _ (by
    obtain ⟨st, s, c, T⟩ := x
    unfold stp
    by_cases q : s < n ∧ st < 9
    · rw [if_pos q]; exact trn_inv st s c T q.1 h.2
    · rw [if_neg q]; exact h)
theorem stpN_st {t : Nat → Int} {n : Nat} : ∀ (k : Nat) (x : PX), x.1 ≤ 9 → (stpN t n k x).1 ≤ 9
  | 0, _, h => h
  | k + 1, x, h => stpN_st k _ (by
    obtain ⟨st, s, c, T⟩ := x
    unfold stp
    by_cases q : s < n ∧ st < 9
    · rw [if_pos q]; exact trn_st st s c T q.2
    · rw [if_neg q]; exact h)
theorem pRun_ok {t : Nat → Int} {n : Nat} {T : Nat → Int} {y : PX} (h : pRun t n T y) (hR : ∀ i, R32 (T i)) : y.2.1 ≤ n ∧ (∀ i, R32 (y.2.2.2 i)) ∧ (pFault n y = -1 → 10 * y.2.2.1 ≤ n) ∧ y.1 ≤ 9 := by
  obtain ⟨_, a, rfl⟩ := h
  have h1 := stpN_inv (t := t) (n := n) a (0, skB t n 0, 0, T) ⟨skB_le (Nat.zero_le n), hR⟩
  have h2 := stpN_ok (t := t) (n := n) a (0, skB t n 0, 0, T) (Or.inr (Nat.zero_le _))
  have h3 := stpN_st (t := t) (n := n) a (0, skB t n 0, 0, T) (Nat.zero_le _)
  generalize stpN t n a (0, skB t n 0, 0, T) = y at *
  refine ⟨h1.1, h1.2, fun z => ?_, h3⟩
  rcases h2 with q | q
  · unfold pFault at z
    rw [if_pos q] at z
    omega
  · have := h1.1
    omega
theorem pFault_r {n : Nat} {y : PX} (h : y.2.1 ≤ n) (hn : n ≤ 900) : -1 ≤ pFault n y ∧ pFault n y ≤ 900 := by
  unfold pFault
  by_cases e : y.1 = 9
  · rw [if_pos e]; omega
  · rw [if_neg e]
    by_cases e0 : y.1 = 0
    · rw [if_pos e0]; omega
    · rw [if_neg e0]; omega
theorem pRun_uniq {t : Nat → Int} {n : Nat} {T : Nat → Int} {y z : PX} (h : pRun t n T y) (g : pRun t n T z) : y = z := by
  obtain ⟨h1, a, ha⟩ := h
  obtain ⟨g1, b, hb⟩ := g
  have := stpN_uniq (t := t) (n := n) (x := (0, skB t n 0, 0, T)) (a := a) (b := b) (by rw [ha]; exact h1) (by rw [hb]; exact g1)
  rw [← ha, ← hb, this]
/-- signs behind the tape's end don't count -/
theorem rnn_congr {P : Int → Bool} {t u : Nat → Int} {n : Nat} (h : ∀ i, i < n → t i = u i) : ∀ (k s : Nat), rn P t n k s = rn P u n k s
  | 0, _ => rfl
  | k + 1, s => by
    show (if s < n ∧ P (t s) = true then _ else _) = (if s < n ∧ P (u s) = true then _ else _)
    by_cases q : s < n
    · rw [h s q]
      by_cases q2 : P (u s) = true
      · rw [if_pos ⟨q, q2⟩, if_pos ⟨q, q2⟩]; exact rnn_congr h k (s + 1)
      · rw [if_neg fun z => q2 z.2, if_neg fun z => q2 z.2]
    · rw [if_neg fun z => q z.1, if_neg fun z => q z.1]
