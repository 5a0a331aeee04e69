/-! The reference reads the tape. -/
/-- the reference's tape, where it reads, how many it has read, what they tell -/
def RT (t : Nat → Int) (n : Nat) (M : Mem) (s c : Nat) (T : Nat → Int) : Prop := M 175 2 = n ∧ M 150 = t ∧ M 175 31 = s ∧ M 175 32 = c ∧ M 166 = T
def FT (M M' : Mem) : Prop := (∀ a, a ≠ 175 → a ≠ 166 → M' a = M a) ∧ ∀ s, s ≠ 31 → s ≠ 32 → M' 175 s = M 175 s
theorem FT.rfl' {M : Mem} : FT M M := ⟨fun _ _ _ => rfl, fun _ _ _ => rfl⟩
theorem FT.tr {M M' M'' : Mem} (h : FT M M') (h2 : FT M' M'') : FT M M'' := ⟨fun a q1 q2 => (h2.1 a q1 q2).trans (h.1 a q1 q2), fun s q1 q2 => (h2.2 s q1 q2).trans (h.2 s q1 q2)⟩
theorem FT.u31 {M : Mem} {v : Int} : FT M (upd2 M 175 31 v) := ⟨fun _ h _ => u2_off h, fun _ h _ => u2_ne h⟩
theorem FT.u32 {M : Mem} {v : Int} : FT M (upd2 M 175 32 v) := ⟨fun _ h _ => u2_off h, fun _ _ h => u2_ne h⟩
theorem FT.u166 {M : Mem} {k : Nat} {v : Int} : FT M (upd2 M 166 k v) := ⟨fun _ _ h => u2_off h, fun _ _ _ => by rw [u2_off (by decide)]⟩
def TR (t : Nat → Int) (n : Nat) : Prop := n ≤ 900 ∧ ∀ i, R32 (t i)
theorem RT.at31 {t : Nat → Int} {n : Nat} {M : Mem} {s s' c : Nat} {T : Nat → Int} (h : RT t n M s c T) : RT t n (upd2 M 175 31 (s' : Int)) s' c T := ⟨(u2_ne (by decide)).trans h.1, (u2_off (by decide)).trans h.2.1, u2_same, (u2_ne (by decide)).trans h.2.2.2.1, (u2_off (by decide)).trans h.2.2.2.2⟩
theorem RT.at166 {t : Nat → Int} {n : Nat} {M : Mem} {s c k : Nat} {v : Int} {T : Nat → Int} (h : RT t n M s c T) : RT t n (upd2 M 166 k v) s c (sr T k v) := ⟨by rw [u2_off (by decide)]; exact h.1, by rw [u2_off (by decide)]; exact h.2.1, by rw [u2_off (by decide)]; exact h.2.2.1, by rw [u2_off (by decide)]; exact h.2.2.2.1, by rw [u2_row, h.2.2.2.2]⟩
theorem RT.at32 {t : Nat → Int} {n : Nat} {M : Mem} {s c c' : Nat} {T : Nat → Int} (h : RT t n M s c T) : RT t n (upd2 M 175 32 (c' : Int)) s c' T := ⟨(u2_ne (by decide)).trans h.1, (u2_off (by decide)).trans h.2.1, (u2_ne (by decide)).trans h.2.2.1, u2_same, (u2_off (by decide)).trans h.2.2.2.2⟩
/-- letters as places by 27 -/
def cd (f : Nat → Int) (s : Nat) : Nat → Int
  | 0 => 0
  | k + 1 => 27 * cd f s k + (f (s + k) - 96)
theorem cd_nn {f : Nat → Int} {s : Nat} : ∀ k, (∀ i, i < k → 97 ≤ f (s + i) ∧ f (s + i) ≤ 122) → 0 ≤ cd f s k ∧ (0 < k → 0 < cd f s k)
  | 0, _ => ⟨Int.le_refl 0, fun h => absurd h (by decide)⟩
  | k + 1, h => by
    have h1 := cd_nn k (fun i hi => h i (by omega))
    have h2 := h k (by omega)
    show 0 ≤ 27 * cd f s k + (f (s + k) - 96) ∧ (_ → 0 < 27 * cd f s k + (f (s + k) - 96))
    omega
theorem cd_inj {f g : Nat → Int} {s r : Nat} : ∀ k m, (∀ i, i < k → 97 ≤ f (s + i) ∧ f (s + i) ≤ 122) → (∀ i, i < m → 97 ≤ g (r + i) ∧ g (r + i) ≤ 122) → cd f s k = cd g r m → k = m ∧ ∀ i, i < k → f (s + i) = g (r + i)
  | 0, 0, _, _, _ => ⟨rfl, fun i hi => absurd hi (by omega)⟩
  | 0, m + 1, _, hg, h => by
    have := (cd_nn (m + 1) hg).2 (by omega)
    have h0 : cd f s 0 = 0 := rfl
    omega
  | k + 1, 0, hf, _, h => by
    have := (cd_nn (k + 1) hf).2 (by omega)
    have h0 : cd g r 0 = 0 := rfl
    omega
  | k + 1, m + 1, hf, hg, h => by
    have h1 := hf k (by omega)
    have h2 := hg m (by omega)
    have h' : 27 * cd f s k + (f (s + k) - 96) = 27 * cd g r m + (g (r + m) - 96) := h
    have e : f (s + k) = g (r + m) ∧ cd f s k = cd g r m := by omega
    obtain ⟨q1, q2⟩ := cd_inj k m (fun i hi => hf i (by omega)) (fun i hi => hg i (by omega)) e.2
    subst q1
    refine ⟨rfl, fun i hi => ?_⟩
    by_cases z : i = k
    · subst z; exact e.1
    · exact q2 i (by omega)
theorem cd_small {f : Nat → Int} {s : Nat} : ∀ k, k ≤ 7 → (∀ i, i < k → 97 ≤ f (s + i) ∧ f (s + i) ≤ 122) → cd f s k < 27 ^ k
  | 0, _, _ => by show (0 : Int) < 27 ^ 0; decide
  | k + 1, hk, h => by
    have h1 := cd_small k (by omega) (fun i hi => h i (by omega))
    have h2 := h k (by omega)
    show 27 * cd f s k + (f (s + k) - 96) < 27 ^ (k + 1)
    rw [Int.pow_succ]
    omega
/-- what word stands at a place -/
def wdN (x : Int) : Int := if x = 47 then 1 else if x = 10656676 then 2 else if x = 223456 then 3 else if x = 332864551 then 4 else 0
def cw (t : Nat → Int) (s k : Nat) : Int := if k ≤ 7 then cd t s k else -1000000000
def wd (t : Nat → Int) (n s : Nat) : Int := wdN (cw t s (rnn isL t n s - s))
def wl (j : Nat) (i : Nat) : Int := match nth (wordL j) i with
  | some v => v
  | none => 0
theorem nth_len {α : Type} : ∀ (l : List α) (i : Nat), i < l.length → ∃ v, nth l i = some v
  | [], i, h => absurd h (by simp)
  | a :: l, 0, _ => ⟨a, rfl⟩
  | a :: l, i + 1, h => nth_len l i (by simpa using h)
theorem nth_lt {α : Type} : ∀ (l : List α) (i : Nat) (v : α), nth l i = some v → i < l.length
  | [], i, v, h => by simp [nth] at h
  | a :: l, 0, v, h => by simp
  | a :: l, i + 1, v, h => by
    have := nth_lt l i v h
    simpa using this
theorem wEq_wl {t : Nat → Int} {j s : Nat} : wEq t (wordL j) s = true ↔ ∀ i, i < (wordL j).length → t (s + i) = wl j i := by
  rw [wEq_iff]
  constructor
  · intro h i hi
    obtain ⟨v, hv⟩ := nth_len _ i hi
    rw [h i v hv]
    unfold wl
    rw [hv]
  · intro h i v hv
    rw [h i (nth_lt _ _ _ hv)]
    unfold wl
    rw [hv]
theorem te_letter {t : Nat → Int} {n s : Nat} (hs : s < n) (h : isL (t s) = true) : te t n s = rnn isL t n s := by
  have h1 := isL_iff.mp h
  have hd : rnn isD t n s = s := rnn_st (by rw [isD_iff]; omega)
  have hl : s < rnn isL t n s := by
    rw [rnn_go hs h]
    have := rnn_ge (P := isL) (t := t) (n := n) _ (s + 1) (Nat.le_refl _)
    omega
  unfold te
  rw [if_neg (by omega), if_pos hl]
theorem word_iff {t : Nat → Int} {n s j : Nat} {x : Int} (hj : ∀ i, i < (wordL j).length → 97 ≤ wl j (0 + i) ∧ wl j (0 + i) ≤ 122) (hx : cd (wl j) 0 (wordL j).length = x) (h7 : (wordL j).length ≤ 7) (h2 : 2 ≤ (wordL j).length) (hx0 : 0 < x) : cw t s (rnn isL t n s - s) = x ↔ isW t j s (te t n s) = true := by
  have hin : ∀ i, i < rnn isL t n s - s → 97 ≤ t (s + i) ∧ t (s + i) ≤ 122 := fun i hi => isL_iff.mp (rnn_in (P := isL) (t := t) (n := n) _ s (Nat.le_refl _) (s + i) (by omega) (by omega)).2
  have hge := rnn_ge (P := isL) (t := t) (n := n) _ s (Nat.le_refl _)
  unfold isW
  rw [Bool.and_eq_true, decide_eq_true_eq, wEq_wl]
  constructor
  · intro h
    unfold cw at h
    by_cases q : rnn isL t n s - s ≤ 7
    · rw [if_pos q, ← hx] at h
      obtain ⟨e1, e2⟩ := cd_inj _ _ hin hj h
      have hl := isL_iff.mpr (hin 0 (by omega))
      have hsn : s < n := (rnn_in (P := isL) (t := t) (n := n) _ s (Nat.le_refl _) s (Nat.le_refl _) (by omega)).1
      rw [te_letter hsn hl]
      refine ⟨by omega, fun i hi => ?_⟩
      have := e2 i (by omega)
      rwa [Nat.zero_add] at this
    · rw [if_neg q] at h; omega
  · rintro ⟨h1, h3⟩
    have hsn : s < n := by
      rcases Nat.lt_or_ge s n with q | q
      · exact q
      · have a1 : rnn isD t n s = s := rnn_st (by omega)
        have a2 : rnn isL t n s = s := rnn_st (by omega)
        unfold te at h1
        rw [a1, a2, if_neg (by omega), if_neg (by omega)] at h1
        omega
    have h0 := h3 0 (by omega)
    have hr := hj 0 (by omega)
    have hl : isL (t s) = true := by
      rw [isL_iff]
      rw [Nat.add_zero] at h0
      rw [Nat.zero_add] at hr
      omega
    rw [te_letter hsn hl] at h1
    have ek : rnn isL t n s - s = (wordL j).length := by omega
    unfold cw
    rw [ek, if_pos h7, ← hx]
    have : ∀ k, k ≤ (wordL j).length → cd t s k = cd (wl j) 0 k := by
      intro k
      induction k with
      | zero => intro _; rfl
      | succ k ih =>
        intro hk
        show 27 * cd t s k + (t (s + k) - 96) = 27 * cd (wl j) 0 k + (wl j (0 + k) - 96)
        rw [ih (by omega), h3 k (by omega), Nat.zero_add]
    exact this _ (Nat.le_refl _)
theorem wd_iff {t : Nat → Int} {n s : Nat} : (wd t n s = 1 ↔ isW t 1 s (te t n s) = true) ∧ (wd t n s = 2 ↔ isW t 2 s (te t n s) = true) ∧ (wd t n s = 3 ↔ isW t 3 s (te t n s) = true) ∧ (wd t n s = 4 ↔ isW t 4 s (te t n s) = true) ∧ 0 ≤ wd t n s ∧ wd t n s ≤ 4 := by
  have w1 := word_iff (t := t) (n := n) (s := s) (j := 1) (x := 47) (by decide) (by decide) (by decide) (by decide) (by decide)
  have w2 := word_iff (t := t) (n := n) (s := s) (j := 2) (x := 10656676) (by decide) (by decide) (by decide) (by decide) (by decide)
  have w3 := word_iff (t := t) (n := n) (s := s) (j := 3) (x := 223456) (by decide) (by decide) (by decide) (by decide) (by decide)
  have w4 := word_iff (t := t) (n := n) (s := s) (j := 4) (x := 332864551) (by decide) (by decide) (by decide) (by decide) (by decide)
  rw [← w1, ← w2, ← w3, ← w4]
  unfold wd wdN
  generalize cw t s (rnn isL t n s - s) = x
  by_cases e1 : x = 47
  · rw [if_pos e1]; omega
  · rw [if_neg e1]
    by_cases e2 : x = 10656676
    · rw [if_pos e2]; omega
    · rw [if_neg e2]
      by_cases e3 : x = 223456
      · rw [if_pos e3]; omega
      · rw [if_neg e3]
        by_cases e4 : x = 332864551
        · rw [if_pos e4]; omega
        · rw [if_neg e4]; omega
/-- a number may be read there -/
def isN (t : Nat → Int) (n s : Nat) : Prop := s < n ∧ isD (t s) = true ∧ te t n s ≤ s + 4
theorem te_digit {t : Nat → Int} {n s : Nat} (hs : s < n) (h : isD (t s) = true) : te t n s = rnn isD t n s := by
  have hl : s < rnn isD t n s := by
    rw [rnn_go hs h]
    have := rnn_ge (P := isD) (t := t) (n := n) _ (s + 1) (Nat.le_refl _)
    omega
  unfold te
  rw [if_pos hl]