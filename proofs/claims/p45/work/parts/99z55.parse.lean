/-! The grammar of the tape as a machine of tokens, and the class's scan. -/
def rn (P : Int → Bool) (t : Nat → Int) (n : Nat) : Nat → Nat → Nat
  | 0, s => s
  | k + 1, s => if s < n ∧ P (t s) = true then rn P t n k (s + 1) else s
/-- the end of a row of such signs -/
def rnn (P : Int → Bool) (t : Nat → Int) (n s : Nat) : Nat := rn P t n (n - s) s
theorem rnn_go {P : Int → Bool} {t : Nat → Int} {n s : Nat} (h : s < n) (hp : P (t s) = true) : rnn P t n s = rnn P t n (s + 1) := by
  unfold rnn
  rw [show n - s = (n - (s + 1)) + 1 by omega]
  show (if s < n ∧ P (t s) = true then rn P t n (n - (s + 1)) (s + 1) else s) = _
  rw [if_pos ⟨h, hp⟩]
theorem rnn_st {P : Int → Bool} {t : Nat → Int} {n s : Nat} (h : ¬ (s < n ∧ P (t s) = true)) : rnn P t n s = s := by
  unfold rnn
  cases hk : n - s with
  | zero => rfl
  | succ k => exact if_neg h
theorem rnn_ge {P : Int → Bool} {t : Nat → Int} {n : Nat} : ∀ (k s : Nat), n - s ≤ k → s ≤ rnn P t n s
  | 0, s, h => by rw [rnn_st (by omega)]; exact Nat.le_refl s
  | k + 1, s, h => by
    by_cases q : s < n ∧ P (t s) = true
    · rw [rnn_go q.1 q.2]
      have := rnn_ge (P := P) (t := t) (n := n) k (s + 1) (by omega)
      omega
    · rw [rnn_st q]; exact Nat.le_refl s
theorem rnn_le {P : Int → Bool} {t : Nat → Int} {n : Nat} : ∀ (k s : Nat), n - s ≤ k → s ≤ n → rnn P t n s ≤ n
  | 0, s, h, hs => by rw [rnn_st (by omega)]; exact hs
  | k + 1, s, h, hs => by
    by_cases q : s < n ∧ P (t s) = true
    · rw [rnn_go q.1 q.2]
      exact rnn_le k (s + 1) (by omega) (by omega)
    · rw [rnn_st q]; exact hs
theorem rnn_in {P : Int → Bool} {t : Nat → Int} {n : Nat} : ∀ (k s : Nat), n - s ≤ k → ∀ i, s ≤ i → i < rnn P t n s → i < n ∧ P (t i) = true
  | 0, s, h => fun i h1 h2 => by rw [rnn_st (by omega)] at h2; omega
  | k + 1, s, h => fun i h1 h2 => by
    by_cases q : s < n ∧ P (t s) = true
    · rw [rnn_go q.1 q.2] at h2
      by_cases e : i = s
      · subst e; exact q
      · exact rnn_in k (s + 1) (by omega) i (by omega) h2
    · rw [rnn_st q] at h2; omega
theorem rnn_end {P : Int → Bool} {t : Nat → Int} {n : Nat} : ∀ (k s : Nat), n - s ≤ k → ¬ (rnn P t n s < n ∧ P (t (rnn P t n s)) = true)
  | 0, s, h => by rw [rnn_st (by omega)]; omega
  | k + 1, s, h => by
    by_cases q : s < n ∧ P (t s) = true
    · rw [rnn_go q.1 q.2]
      exact rnn_end k (s + 1) (by omega)
    · rw [rnn_st q]; exact q
def isB (v : Int) : Bool := decide (v = 32)
def isD (v : Int) : Bool := decide (48 ≤ v ∧ v ≤ 57)
def isL (v : Int) : Bool := decide (97 ≤ v ∧ v ≤ 122)
theorem isB_iff {v : Int} : isB v = true ↔ v = 32 := by simp [isB]
theorem isD_iff {v : Int} : isD v = true ↔ 48 ≤ v ∧ v ≤ 57 := by simp [isD]
theorem isL_iff {v : Int} : isL v = true ↔ 97 ≤ v ∧ v ≤ 122 := by simp [isL]
abbrev skB (t : Nat → Int) (n s : Nat) : Nat := rnn isB t n s
/-- the end of a token -/
def te (t : Nat → Int) (n s : Nat) : Nat := if s < rnn isD t n s then rnn isD t n s else if s < rnn isL t n s then rnn isL t n s else s + 1
theorem te_gt {t : Nat → Int} {n s : Nat} : s < te t n s := by
  unfold te
  by_cases h : s < rnn isD t n s
  · rw [if_pos h]; exact h
  · rw [if_neg h]
    by_cases h2 : s < rnn isL t n s
    · rw [if_pos h2]; exact h2
    · rw [if_neg h2]; omega
theorem te_le {t : Nat → Int} {n s : Nat} (hs : s < n) : te t n s ≤ n := by
  unfold te
  by_cases h : s < rnn isD t n s
  · rw [if_pos h]; exact rnn_le _ s (Nat.le_refl _) (by omega)
  · rw [if_neg h]
    by_cases h2 : s < rnn isL t n s
    · rw [if_pos h2]; exact rnn_le _ s (Nat.le_refl _) (by omega)
    · rw [if_neg h2]; omega
def wEq (t : Nat → Int) : List Int → Nat → Bool
  | [], _ => true
  | v :: r, s => decide (t s = v) && wEq t r (s + 1)
theorem wEq_iff {t : Nat → Int} : ∀ (l : List Int) (s : Nat), wEq t l s = true ↔ ∀ (i : Nat) (v : Int), nth l i = some v → t (s + i) = v
  | [], s => by simp [wEq, nth]
  | w :: l, s => by
    simp only [wEq, Bool.and_eq_true, decide_eq_true_eq]
    constructor
    · rintro ⟨h1, h2⟩ i v h
      cases i with
      | zero => cases h; exact h1
      | succ i =>
        have := (wEq_iff l (s + 1)).mp h2 i v h
        rw [show s + (i + 1) = s + 1 + i by omega]; exact this
    · intro h
      refine ⟨h 0 w rfl, (wEq_iff l (s + 1)).mpr fun i v q => ?_⟩
      have := h (i + 1) v q
      rw [show s + 1 + i = s + (i + 1) by omega]; exact this
/-- a word stands from s to e -/
def isW (t : Nat → Int) (k s e : Nat) : Bool := decide (e = s + (wordL k).length) && wEq t (wordL k) s
/-- the number that the signs from s on tell -/
def nv (t : Nat → Int) (s : Nat) : Nat → Int
  | 0 => 0
  | k + 1 => nv t s k * 10 + t (s + k) - 48
abbrev PX : Type := Nat × Nat × Nat × (Nat → Int)
def pNum (t : Nat → Int) (n st p s c : Nat) (T : Nat → Int) : PX := if te t n s ≤ s + 4 ∧ isD (t s) = true then (st, skB t n (te t n s), c, sr T (4 * c + p) (nv t s (te t n s - s))) else (9, s, c, T)
def pEnd (t : Nat → Int) (n s c : Nat) (T : Nat → Int) : PX := if isW t 5 s (te t n s) = true then (0, skB t n (te t n s), c + 1, T) else (9, s, c, T)
def pKind (t : Nat → Int) (n s c : Nat) (T : Nat → Int) : PX := if isW t 4 s (te t n s) = true then (7, skB t n (te t n s), c, T) else pEnd t n s c T
def trn (t : Nat → Int) (n : Nat) : PX → PX
  | (0, s, c, T) => if isW t 1 s (te t n s) = true then (1, skB t n (te t n s), c, sr (sr T (4 * c + 2) 0) (4 * c + 3) 1) else (9, s, c, T)
  | (1, s, c, T) => pNum t n 2 0 s c T
  | (2, s, c, T) => if isW t 2 s (te t n s) = true then (3, skB t n (te t n s), c, T) else (9, s, c, T)
  | (3, s, c, T) => pNum t n 4 1 s c T
  | (4, s, c, T) => if isW t 3 s (te t n s) = true then (5, skB t n (te t n s), c, T) else pKind t n s c T
  | (5, s, c, T) => pNum t n 6 2 s c T
  | (6, s, c, T) => pKind t n s c T
  | (7, s, c, T) => pNum t n 8 3 s c T
  | (8, s, c, T) => pEnd t n s c T
  | x => x
def stp (t : Nat → Int) (n : Nat) (x : PX) : PX := if x.2.1 < n ∧ x.1 < 9 then trn t n x else x
def stpN (t : Nat → Int) (n : Nat) : Nat → PX → PX
  | 0, x => x
  | k + 1, x => stpN t n k (stp t n x)
/-- the fault -/
def pFault (n : Nat) (x : PX) : Int := if x.1 = 9 then x.2.1 else if x.1 = 0 then -1 else n
def pFin (n : Nat) (x : PX) : Prop := ¬ (x.2.1 < n ∧ x.1 < 9)
theorem stp_fin {t : Nat → Int} {n : Nat} {x : PX} (h : pFin n x) : stp t n x = x := if_neg h
theorem stpN_fin {t : Nat → Int} {n : Nat} {x : PX} (h : pFin n x) : ∀ k, stpN t n k x = x
  | 0 => rfl
  | k + 1 => by
    show stpN t n k (stp t n x) = x
    rw [stp_fin h]
    exact stpN_fin h k
theorem stpN_add {t : Nat → Int} {n : Nat} : ∀ (a b : Nat) (x : PX), stpN t n (a + b) x = stpN t n b (stpN t n a x)
  | 0, b, x => by rw [Nat.zero_add]; rfl
  | a + 1, b, x => by
    rw [show a + 1 + b = (a + b) + 1 by omega]
    exact stpN_add a b (stp t n x)
theorem stpN_uniq {t : Nat → Int} {n : Nat} {x : PX} {a b : Nat} (ha : pFin n (stpN t n a x)) (hb : pFin n (stpN t n b x)) : stpN t n a x = stpN t n b x := by
  rcases Nat.le_total a b with h | h
  · obtain ⟨k, rfl⟩ := Nat.exists_eq_add_of_le h
    rw [stpN_add, stpN_fin ha]
  · obtain ⟨k, rfl⟩ := Nat.exists_eq_add_of_le h
    rw [stpN_add, stpN_fin hb]
/-- how many signs stand ahead of a state, within a coming -/
def mlen : Nat → Nat
  | 0 => 0
  | 1 => 2
  | 2 => 3
  | 3 => 8
  | 4 => 9
  | 5 => 13
  | 6 => 14
  | 7 => 15
  | 8 => 16
  | _ => 0
def pOk (x : PX) : Prop := x.1 = 9 ∨ 10 * x.2.2.1 + mlen x.1 ≤ x.2.1
theorem isW_len {t : Nat → Int} {k s e : Nat} (h : isW t k s e = true) : e = s + (wordL k).length := by
  unfold isW at h
  simp only [Bool.and_eq_true, decide_eq_true_eq] at h
  exact h.1
theorem skB_ge {t : Nat → Int} {n s : Nat} : s ≤ skB t n s := rnn_ge _ s (Nat.le_refl _)
theorem pEnd_ok {t : Nat → Int} {n s c m : Nat} {T : Nat → Int} (h : 10 * c + m ≤ s) (hm : 9 ≤ m) : pOk (pEnd t n s c T) := by
  unfold pEnd
  by_cases q : isW t 5 s (te t n s) = true
  · rw [if_pos q]
    refine Or.inr ?_
    have h1 := isW_len q
    have h2 := skB_ge (t := t) (n := n) (s := te t n s)
    have h3 : (wordL 5).length = 1 := rfl
    show 10 * (c + 1) + 0 ≤ skB t n (te t n s)
    omega
  · rw [if_neg q]; exact Or.inl rfl
theorem pKind_ok {t : Nat → Int} {n s c m : Nat} {T : Nat → Int} (h : 10 * c + m ≤ s) (hm : 9 ≤ m) : pOk (pKind t n s c T) := by
  unfold pKind
  by_cases q : isW t 4 s (te t n s) = true
  · rw [if_pos q]
    refine Or.inr ?_
    have h1 := isW_len q
    have h2 := skB_ge (t := t) (n := n) (s := te t n s)
    have h3 : (wordL 4).length = 6 := rfl
    show 10 * c + 15 ≤ skB t n (te t n s)
    omega
  · rw [if_neg q]; exact pEnd_ok h hm
theorem pNum_ok {t : Nat → Int} {n s c m st p : Nat} {T : Nat → Int} (h : 10 * c + m ≤ s) (hm : mlen st ≤ m + 1) : pOk (pNum t n st p s c T) := by
  unfold pNum
  by_cases q : te t n s ≤ s + 4 ∧ isD (t s) = true
  · rw [if_pos q]
    refine Or.inr ?_
    have h1 := te_gt (t := t) (n := n) (s := s)
    have h2 := skB_ge (t := t) (n := n) (s := te t n s)
    show 10 * c + mlen st ≤ skB t n (te t n s)
    omega
  · rw [if_neg q]; exact Or.inl rfl
theorem trn_ok {t : Nat → Int} {n st s c : Nat} {T : Nat → Int} (h : 10 * c + mlen st ≤ s) : pOk (trn t n (st, s, c, T)) ∨ trn t n (st, s, c, T) = (st, s, c, T) := by
  have h2 := skB_ge (t := t) (n := n) (s := te t n s)
  match st, h with
  | 0, h =>
    left
    show pOk (if isW t 1 s (te t n s) = true then _ else _)
    by_cases q : isW t 1 s (te t n s) = true
    · rw [if_pos q]
      have h1 := isW_len q
      have h3 : (wordL 1).length = 2 := rfl
      have h4 : mlen 0 = 0 := rfl
      refine Or.inr ?_
      show 10 * c + 2 ≤ skB t n (te t n s)
      omega
    · rw [if_neg q]; exact Or.inl rfl
  | 1, h => exact Or.inl (pNum_ok h (by decide))
  | 2, h =>
    left
    show pOk (if isW t 2 s (te t n s) = true then _ else _)
    by_cases q : isW t 2 s (te t n s) = true
    · rw [if_pos q]
      have h1 := isW_len q
      have h3 : (wordL 2).length = 5 := rfl
      have h4 : mlen 2 = 3 := rfl
      refine Or.inr ?_
      show 10 * c + 8 ≤ skB t n (te t n s)
      omega
    · rw [if_neg q]; exact Or.inl rfl
  | 3, h => exact Or.inl (pNum_ok h (by decide))
  | 4, h =>
    left
    show pOk (if isW t 3 s (te t n s) = true then _ else _)
    by_cases q : isW t 3 s (te t n s) = true
    · rw [if_pos q]
      have h1 := isW_len q
      have h3 : (wordL 3).length = 4 := rfl
      have h4 : mlen 4 = 9 := rfl
      refine Or.inr ?_
      show 10 * c + 13 ≤ skB t n (te t n s)
      omega
    · rw [if_neg q]; exact pKind_ok h (by decide)
  | 5, h => exact Or.inl (pNum_ok h (by decide))
  | 6, h => exact Or.inl (pKind_ok h (by decide))
  | 7, h => exact Or.inl (pNum_ok h (by decide))
  | 8, h => exact Or.inl (pEnd_ok h (by decide))
  | k + 9, h => exact Or.inr rfl
