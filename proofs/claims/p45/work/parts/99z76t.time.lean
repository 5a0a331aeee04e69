/-! Nobody leaves ahead of his coming. -/
def T3 (J : Nat → Int) (t : Int) (x : SG) : Prop := ∀ k, k < x.2.2.1 → J (4 * k) ≤ x.2.2.2 3 k ∧ J (4 * k) ≤ t
theorem T3.go {J : Nat → Int} {wait t : Int} {x : SG} (h : T3 J t x) : T3 J t (sGo J wait t x) := by
  intro k hk
  obtain ⟨h1, h2⟩ := h k hk
  refine ⟨?_, h2⟩
  show J (4 * k) ≤ goF J wait t x.1 x.2.2.2 3 k
  unfold goF
  by_cases q : k ∈ x.1 ∧ gonD J wait t x.2.2.2 k = true
  · rw [if_pos q]; exact h2
  · rw [if_neg q]; exact h1
theorem T3.in1 {J : Nat → Int} {cap t : Int} {x : SG} (h : T3 J t x) (hx : J (4 * x.2.2.1) ≤ t) : T3 J t (sIn1 J cap t x) := by
  obtain ⟨e1, e2, e3⟩ := sIn1_F (J := J) (cap := cap) (t := t) (x := x)
  intro k hk
  rw [e1] at hk
  by_cases e : k = x.2.2.1
  · subst e
    have hn : (sIn1 J cap t x).2.2.2 3 x.2.2.1 = t := by
      unfold sIn1
      by_cases q : (x.1.length : Int) + x.2.1.length < cap
      · rw [if_pos q]
        show upd2 (inF J t x.2.2.1 x.2.2.2) 0 x.2.2.1 3 3 x.2.2.1 = t
        unfold inF
        rw [u2_off (by decide), u2_off (by decide), u2_same]
      · rw [if_neg q]
        show upd2 (inF J t x.2.2.1 x.2.2.2) 0 x.2.2.1 2 3 x.2.2.1 = t
        unfold inF
        rw [u2_off (by decide), u2_off (by decide), u2_same]
    rw [hn]
    exact ⟨hx, hx⟩
  · rw [e3 3 k e]; exact h k (by omega)
theorem T3.in_ {n : Nat} {J : Nat → Int} {cap t : Int} : ∀ (f : Nat) (x : SG), T3 J t x → T3 J t (sIn n J cap t f x)
  | 0, _, h => h
  | f + 1, x, h => by
    unfold sIn
    by_cases q : x.2.2.1 < n ∧ J (4 * x.2.2.1) ≤ t
    · rw [if_pos q]; exact T3.in_ f _ (h.in1 q.2)
    · rw [if_neg q]; exact h
theorem T3.seat {J : Nat → Int} {many by_ t : Int} : ∀ (f : Nat) (x : SG), T3 J t x → T3 J t (sSeat J many by_ t f x)
  | 0, _, h => h
  | f + 1, x, h => by
    unfold sSeat
    by_cases q : (x.2.1.length : Int) < many ∧ 0 < x.1.length
    · rw [if_pos q]
      refine T3.seat f _ fun k hk => ?_
      have e : (sSeat1 J by_ t x).2.2.2 3 k = x.2.2.2 3 k := by
        unfold sSeat1
        dsimp only
        by_cases e : x.2.2.2 2 (x.1.getD (plc J by_ x.1 x.2.2.2) 0) = -1
        · rw [if_pos e, u2_off (by decide)]
        · rw [if_neg e]
      rw [e]
      exact h k hk
    · rw [if_neg q]; exact h
theorem T3.wk {J : Nat → Int} {by_ t : Int} : ∀ (L : List Nat) (x : SG), T3 J t x → T3 J t (sWk by_ t L x)
  | [], _, h => h
  | j :: L, (row, srv, nx, F), h => by
    unfold sWk
    dsimp only
    by_cases q : F 1 j - 1 ≤ 0
    · rw [if_pos q]
      refine T3.wk L _ fun k hk => ?_
      obtain ⟨h1, h2⟩ := h k hk
      refine ⟨?_, h2⟩
      show J (4 * k) ≤ upd2 (upd2 (upd2 F 1 j (F 1 j - 1)) 0 j 0) 3 j (t + 1) 3 k
      rw [u2', u2_off (by decide), u2_off (by decide)]
      by_cases e : (3 : Nat) = 3 ∧ k = j
      · rw [if_pos e]; omega
      · rw [if_neg e]; exact h1
    · rw [if_neg q]
      by_cases q2 : 4 ≤ by_
      · rw [if_pos q2]
        refine T3.wk L _ fun k hk => ?_
        show J (4 * k) ≤ upd2 F 1 j (F 1 j - 1) 3 k ∧ _
        rw [u2_off (by decide)]; exact h k hk
      · rw [if_neg q2]
        refine T3.wk L _ fun k hk => ?_
        show J (4 * k) ≤ upd2 F 1 j (F 1 j - 1) 3 k ∧ _
        rw [u2_off (by decide)]; exact h k hk
theorem T3.at_ {n : Nat} {J : Nat → Int} {many by_ space wait : Int} : ∀ t : Nat, T3 J (t : Int) (sAt n J many by_ space wait t)
  | 0 => fun k hk => absurd hk (Nat.not_lt_zero k)
  | t + 1 => by
    have ih := T3.at_ (n := n) (J := J) (many := many) (by_ := by_) (space := space) (wait := wait) t
    have h : T3 J (t : Int) (sWork by_ (t : Int) (sMid n J many by_ space wait (t : Int) (sAt n J many by_ space wait t))) := by
      unfold sWork
      exact T3.wk _ _ (T3.seat _ _ (T3.in_ _ _ ih.go))
    intro k hk
    obtain ⟨h1, h2⟩ := h k hk
    exact ⟨h1, by omega⟩
theorem time_nn {n : Nat} {J : Nat → Int} {many by_ space wait : Int} {T : Nat} (hV : VJ n J) (hm : 1 ≤ many) (h : ¬ sOn n (sAt n J many by_ space wait T)) : ∀ k, k < n → 0 ≤ (sAt n J many by_ space wait T).2.2.2 3 k - J (4 * k) := by
  intro k hk
  have hI := at_inv (by_ := by_) (space := space) (wait := wait) hV hm T
  obtain ⟨e1, _⟩ := off_all (J := J) hI.1 h
  have := (T3.at_ (n := n) (J := J) (many := many) (by_ := by_) (space := space) (wait := wait) T k (by omega)).1
  omega
