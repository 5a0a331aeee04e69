/-! The reference reads the whole tape. -/
theorem rnn_idem {P : Int → Bool} {t : Nat → Int} {n s : Nat} : rnn P t n (rnn P t n s) = rnn P t n s := rnn_st (rnn_end (P := P) (t := t) (n := n) _ s (Nat.le_refl _))
theorem isW_te {t : Nat → Int} {n s w : Nat} (hl : 97 ≤ wl w 0 ∧ wl w 0 ≤ 122) (h2 : 2 ≤ (wordL w).length) (h : isW t w s (te t n s) = true) : te t n s = rnn isL t n s := by
  have h1 := isW_len h
  unfold isW at h
  rw [Bool.and_eq_true, wEq_wl] at h
  have h0 := h.2 0 (by omega)
  rw [Nat.add_zero] at h0
  rcases Nat.lt_or_ge s n with q | q
  · exact te_letter q (by rw [isL_iff]; omega)
  · have a1 : rnn isD t n s = s := rnn_st (by omega)
    have a2 : rnn isL t n s = s := rnn_st (by omega)
    unfold te at h1
    rw [a1, a2, if_neg (by omega), if_neg (by omega)] at h1
    omega
theorem isW_lt {t : Nat → Int} {n s w : Nat} (h2 : 2 ≤ (wordL w).length) (h : isW t w s (te t n s) = true) : s < n := by
  rcases Nat.lt_or_ge s n with q | q
  · exact q
  · have h1 := isW_len h
    have a1 : rnn isD t n s = s := rnn_st (by omega)
    have a2 : rnn isL t n s = s := rnn_st (by omega)
    unfold te at h1
    rw [a1, a2, if_neg (by omega), if_neg (by omega)] at h1
    omega
theorem isW5 {t : Nat → Int} {n s : Nat} : isW t 5 s (te t n s) = true ↔ t s = 59 := by
  unfold isW
  rw [Bool.and_eq_true, decide_eq_true_eq]
  have e5 : wEq t (wordL 5) s = true ↔ t s = 59 := by
    show (decide (t s = 59) && true) = true ↔ _
    simp
  rw [e5]
  constructor
  · exact fun h => h.2
  · intro h
    refine ⟨?_, h⟩
    have a1 : rnn isD t n s = s := rnn_st (by rw [isD_iff]; omega)
    have a2 : rnn isL t n s = s := rnn_st (by rw [isL_iff]; omega)
    unfold te
    rw [a1, a2, if_neg (by omega), if_neg (by omega)]
    rfl
theorem te59 {t : Nat → Int} {n s : Nat} (h : t s = 59) : te t n s = s + 1 := isW_len (isW5.mpr h)
/-- the end of a coming, or of it all -/
def RO (t : Nat → Int) (n c : Nat) (T : Nat → Int) (x0 : PX) (v : Int) (M' : Mem) : Prop := ∃ a s' c' T', RT t n M' s' c' T' ∧ ((v = 1 ∧ stpN t n a x0 = (0, s', c', (stpN t n a x0).2.2.2) ∧ c' = c + 1 ∧ s' ≤ n ∧ skB t n s' = s' ∧ ∀ i, i < 4 * c' → (stpN t n a x0).2.2.2 i = T' i) ∨ (v = 0 ∧ c' = c ∧ pFin n (stpN t n a x0) ∧ pFault n (stpN t n a x0) = s'))
/-- the machine's numbers and the reference's -/
def Ag (P : Nat → Prop) (f g : Nat → Int) : Prop := ∀ i, P i → f i = g i
theorem Ag.sr {P : Nat → Prop} {f g : Nat → Int} {k : Nat} {v : Int} (h : Ag P f g) : Ag (fun i => P i ∨ i = k) (sr f k v) (sr g k v) := fun i hi => by
  by_cases e : i = k
  · subst e; rw [sr_same, sr_same]
  · rw [sr_ne e, sr_ne e]
    rcases hi with q | q
    · exact h i q
    · exact absurd q e
theorem Ag.mono {P P' : Nat → Prop} {f g : Nat → Int} (h : Ag P f g) (hp : ∀ i, P' i → P i) : Ag P' f g := fun i hi => h i (hp i hi)
theorem reach1 {t : Nat → Int} {n a : Nat} {x0 x : PX} (h : stpN t n a x0 = x) : stpN t n (a + 1) x0 = stp t n x := by
  rw [stpN_add, h]; rfl
/-- a word and a number on the machine -/
theorem go_reads {t : Nat → Int} {n s c st st1 st2 p w a : Nat} {Tm Tw : Nat → Int} {x0 : PX} (hst : st < 9) (hst1 : st1 < 9 ∧ st1 ≠ 0) (h2 : 2 ≤ (wordL w).length) (hx : stpN t n a x0 = (st, s, c, Tm)) (htr : isW t w s (te t n s) = true → trn t n (st, s, c, Tm) = (st1, skB t n (te t n s), c, Tw)) (htr1 : ∀ s, trn t n (st1, s, c, Tw) = pNum t n st2 p s c Tw)
    (hW : isW t w s (te t n s) = true) : (isN t n (skB t n (te t n s)) → stpN t n (a + 2) x0 = (st2, skB t n (te t n (skB t n (te t n s))), c, sr Tw (4 * c + p) (nv t (skB t n (te t n s)) (te t n (skB t n (te t n s)) - skB t n (te t n s))))) ∧
    (¬ isN t n (skB t n (te t n s)) → ∃ b, pFin n (stpN t n b x0) ∧ pFault n (stpN t n b x0) = (skB t n (te t n s) : Nat)) := by
  have hsn := isW_lt h2 hW
  have hr := reach1 hx
  have hp : stp t n (st, s, c, Tm) = (st1, skB t n (te t n s), c, Tw) := by
    unfold stp
    rw [if_pos ⟨hsn, hst⟩, htr hW]
  rw [hp] at hr
  have hr2 := reach1 hr
  have hle := skB_le (t := t) (te_le (t := t) hsn)
  generalize skB t n (te t n s) = s2 at *
  constructor
  · intro hn
    rw [show a + 2 = a + 1 + 1 by omega, hr2]
    unfold stp
    rw [if_pos ⟨hn.1, hst1.1⟩, htr1]
    unfold pNum
    rw [if_pos ⟨hn.2.2, hn.2.1⟩]
  · intro hn
    rcases Nat.lt_or_ge s2 n with q | q
    · refine ⟨a + 1 + 1, ?_⟩
      have e : stp t n (st1, s2, c, Tw) = (9, s2, c, Tw) := by
        unfold stp
        rw [if_pos ⟨q, hst1.1⟩, htr1]
        unfold pNum
        rw [if_neg fun z => hn ⟨q, z.2, z.1⟩]
      rw [hr2, e]
      exact ⟨fun z => absurd z.2 (Nat.lt_irrefl 9), rfl⟩
    · refine ⟨a + 1, ?_⟩
      rw [hr]
      refine ⟨fun z => by have := z.1; dsimp only at this; omega, ?_⟩
      unfold pFault
      rw [if_neg (show ¬ st1 = 9 by omega), if_neg (show ¬ st1 = 0 by omega)]
      have : s2 = n := by omega
      rw [this]
theorem wdx {t : Nat → Int} {n s : Nat} : ∀ w : Nat, 1 ≤ w → w ≤ 4 → (wd t n s = (w : Int) ↔ isW t w s (te t n s) = true)
  | 0, h, _ => absurd h (by decide)
  | 1, _, _ => wd_iff.1
  | 2, _, _ => wd_iff.2.1
  | 3, _, _ => wd_iff.2.2.1
  | 4, _, _ => wd_iff.2.2.2.1
  | k + 5, _, h => absurd h (by omega)
theorem wlen2 : ∀ w : Nat, 1 ≤ w → w ≤ 4 → 2 ≤ (wordL w).length ∧ 97 ≤ wl w 0 ∧ wl w 0 ≤ 122
  | 0, h, _ => absurd h (by decide)
  | 1, _, _ => by decide
  | 2, _, _ => by decide
  | 3, _, _ => by decide
  | 4, _, _ => by decide
  | k + 5, _, h => absurd h (by omega)
theorem stp_ok {t : Nat → Int} {n : Nat} (x : PX) (h : pOk x) : pOk (stp t n x) := by
  obtain ⟨st, s, c, T⟩ := x
  unfold stp
  by_cases q : s < n ∧ st < 9
  · rw [if_pos q]
    rcases h with z | z
    · exact absurd q.2 (by have : st = 9 := z
                           omega)
    · rcases trn_ok (t := t) (n := n) (T := T) z with y | y
      · exact y
      · rw [y]; exact Or.inr z
  · rw [if_neg q]; exact h
theorem stpN_ok {t : Nat → Int} {n : Nat} : ∀ (k : Nat) (x : PX), pOk x → pOk (stpN t n k x)
  | 0, _, h => h
  | k + 1, x, h => stpN_ok k _ (stp_ok x h)