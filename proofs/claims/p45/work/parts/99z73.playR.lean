/-! The reference plays: small methods. -/
/-- a play in the reference's memory -/
def stR (x : SG) (k : Nat) : Int := if k < x.2.2.1 then (if k ∈ x.2.1 then 5 else if k ∈ x.1 then 4 else x.2.2.2 0 k) else 3
def RPl (M : Mem) (n : Nat) (J : Nat → Int) (x : SG) : Prop := M 175 40 = x.1.length ∧ M 175 41 = x.2.1.length ∧ LM (M 171) x.1 ∧
  ∀ k, k < n → M 167 k = stR x k ∧ M 168 k = (if k < x.2.2.1 then x.2.2.2 1 k else J (4 * k + 1)) ∧ M 169 k = (if k < x.2.2.1 then x.2.2.2 2 k else -1) ∧ (k < x.2.2.1 → x.2.2.2 0 k ≠ 3 → M 170 k = x.2.2.2 3 k)
abbrev rcs : List Nat := [167, 168, 169, 170, 171, 172]
theorem leave_loop {d : Nat} {Q : Rs → Mem → Prop} {M0 : Mem} {w p : Nat} (hw : M0 175 40 = w) (h24 : w < 24)
    (hQ : ∀ M', FC [171] [] M0 M' → (∀ i, M' 171 i = if p ≤ i ∧ i < w then M0 171 (i + 1) else M0 171 i) → Q (.inl 0) M') : ∀ (k i : Nat) (M : Mem) (o1 : Option PV), i + k = w → p ≤ i → FC [171] [] M0 M → (∀ q, M 171 q = if p ≤ q ∧ q < i then M0 171 (q + 1) else M0 171 q) → L_M_leavesRow_8 d Q M o1 (i : Int)
  | k, i, M, o1, hk, hp, hf, hM => by
    have e12 : M 175 40 = w := by rw [hf.2 40 (by simp)]; exact hw
    refine b_M_leavesRow_8 ?_
    rw [e12, Int.toNat_natCast, show ((i : Int) + 1).toNat = i + 1 by omega, hM (i + 1), if_neg (by omega)]
    refine ⟨⟨by omega, by omega⟩, ⟨by omega, by omega⟩, fun z => ?_, fun z => ⟨⟨by omega, by omega⟩, ⟨by omega, by omega⟩, ?_⟩⟩
    · have e : i = w := by omega
      subst e
      exact hQ M hf hM
    · cases k with
      | zero => omega
      | succ k =>
        refine leave_loop hw h24 hQ k (i + 1) _ _ (by omega) (by omega) (hf.u2 (by simp) (by decide)) fun q => ?_
        rw [u2_row]
        by_cases e : q = i
        · subst e
          rw [sr_same, if_pos ⟨hp, by omega⟩]
        · rw [sr_ne e, hM q]
          by_cases q2 : p ≤ q ∧ q < i
          · rw [if_pos q2, if_pos ⟨q2.1, by omega⟩]
          · rw [if_neg q2, if_neg fun y => q2 ⟨y.1, by omega⟩]
/-- how many of the first are in a list -/
theorem sumN_ind (l : List Nat) : ∀ (n : Nat), l.Nodup → (∀ j, j ∈ l → j < n) → sumN (fun k => if k ∈ l then 1 else 0) n = l.length := by
  induction l with
  | nil =>
    intro n _ _
    rw [sumN_congr (g := fun _ => 0) n (fun k _ => by simp)]
    have : ∀ n, sumN (fun _ => 0) n = 0 := by
      intro n
      induction n with
      | zero => rfl
      | succ n ih => show sumN (fun _ => 0) n + 0 = 0; omega
    rw [this]; rfl
  | cons a l ih =>
    intro n hn hl
    obtain ⟨n1, n2⟩ := List.nodup_cons.mp hn
    have h1 := ih n n2 fun j hj => hl j (List.mem_cons_of_mem _ hj)
    have h2 := sumN_dec (f := fun k => if k ∈ l then 1 else 0) (g := fun k => if k ∈ a :: l then 1 else 0) (m := a) (by
      rw [if_neg n1, if_pos List.mem_cons_self]; rfl) n (hl a List.mem_cons_self) (fun k _ e => by
      by_cases q : k ∈ l
      · rw [if_pos q, if_pos (List.mem_cons_of_mem _ q)]
      · rw [if_neg q, if_neg fun z => by
          rcases List.mem_cons.mp z with y | y
          · exact e y
          · exact q y])
    rw [← h2, h1]
    simp
theorem there_loop {d : Nat} {Q : Rs → Mem → Prop} {M : Mem} {n : Nat} {f : Nat → Int} (hn : M 175 6 = n) (h24 : n ≤ 24) (hf : ∀ k, k < n → R32 (M 167 k) ∧ f k = if M 167 k = 4 ∨ M 167 k = 5 then 1 else 0) (hQ : Q (.inl (sumN f n)) M) : ∀ (m k : Nat), k + m = n → L_M_there_4 d Q M (sumN f k) (k : Int)
  | m, k, hk => by
    have step : k < n → L_M_there_4 d Q M (sumN f k + if M 167 k = 4 ∨ M 167 k = 5 then 1 else 0) ((k : Int) + 1) := fun hkn => by
      cases m with
      | zero => omega
      | succ m =>
        have ih := there_loop (d := d) hn h24 hf hQ m (k + 1) (by omega)
        have hs : sumN f (k + 1) = sumN f k + f k := rfl
        rw [hs, (hf k hkn).2] at ih
        exact ih
    refine b_M_there_4 ?_
    rw [hn, Int.toNat_natCast]
    refine ⟨⟨by omega, by omega⟩, ⟨by omega, by omega⟩, fun z => ?_, fun z => ⟨⟨by omega, by omega⟩, (hf k (by omega)).1, fun z2 => ?_, fun z2 => ⟨fun z3 => ?_, fun z3 => ?_⟩⟩⟩
    · have e : k = n := by omega
      subst e
      exact hQ
    · have := step (by omega)
      rw [if_pos (Or.inl z2)] at this; exact this
    · have := step (by omega)
      rw [if_neg (by omega)] at this; exact this
    · have := step (by omega)
      rw [if_pos (by omega)] at this; exact this
theorem nb_loop {d : Nat} {Q : Rs → Mem → Prop} {M : Mem} {row : List Nat} {J : Nat → Int} {F : Mem} {by_ : Int} (hw : M 175 40 = row.length) (h24 : row.length ≤ 24) (hl : LM (M 171) row) (h8 : ∀ i, i ∈ row → i < 24) (hJ : M 151 = J) (hby : by_ = 2 ∨ by_ = 3 ∨ by_ = 5)
    (hrest : ∀ i, i ∈ row → M 168 i = F 1 i ∧ 0 ≤ F 1 i ∧ F 1 i ≤ 1000) (hj : ∀ i, i ∈ row → (0 ≤ J (4 * i + 1) ∧ J (4 * i + 1) ≤ 1000) ∧ 0 ≤ J (4 * i + 2) ∧ J (4 * i + 2) ≤ 1000) :
    ∀ (f b k : Nat) (o4 o5 o6 o7 : Option PV), k + f = row.length → b < row.length → Q (.inl (bpl (keyF J by_ F) row f b k : Nat)) M → L_M_nextBy_12 d Q M by_ (b : Int) (k : Int) o4 o5 o6 o7
  | 0, b, k, o4, o5, o6, o7, hf, hb, hQ => b_M_nextBy_12 ⟨⟨by omega, by omega⟩, ⟨by omega, by omega⟩, fun _ => hQ, fun z => absurd (by omega) z⟩
  | f + 1, b, k, o4, o5, o6, o7, hf, hb, hQ => by
    have mk : row.getD k 0 ∈ row := by rw [getD_lt (by omega)]; exact List.getElem_mem _
    have mb : row.getD b 0 ∈ row := by rw [getD_lt hb]; exact List.getElem_mem _
    have lk := h8 _ mk
    have lb := h8 _ mb
    unfold bpl at hQ
    have ih := fun (b : Nat) (o4 o5 o6 o7 : Option PV) (hb : b < row.length) (hQ : Q (.inl (bpl (keyF J by_ F) row f b (k + 1) : Nat)) M) => nb_loop (d := d) hw h24 hl h8 hJ hby hrest hj f b (k + 1) o4 o5 o6 o7 (by omega) hb hQ
    have kk : 0 ≤ keyF J by_ F (row.getD k 0) ∧ keyF J by_ F (row.getD k 0) ≤ 1000 := by
      have h1 := hrest _ mk
      have h2 := hj _ mk
      unfold keyF
      rcases hby with e | e | e
      · rw [if_pos e]; exact h2.1
      · rw [if_neg (by omega), if_pos e]; exact h2.2
      · rw [if_neg (by omega), if_neg (by omega)]; exact h1.2
    have kb : 0 ≤ keyF J by_ F (row.getD b 0) ∧ keyF J by_ F (row.getD b 0) ≤ 1000 := by
      have h1 := hrest _ mb
      have h2 := hj _ mb
      unfold keyF
      rcases hby with e | e | e
      · rw [if_pos e]; exact h2.1
      · rw [if_neg (by omega), if_pos e]; exact h2.2
      · rw [if_neg (by omega), if_neg (by omega)]; exact h1.2
    have L92 : L_M_nextBy_92 d Q M by_ (b : Int) (k : Int) ((row.getD k 0 : Nat) : Int) ((row.getD b 0 : Nat) : Int) (keyF J by_ F (row.getD k 0)) (keyF J by_ F (row.getD b 0)) := by
      refine b_M_nextBy_92 ⟨⟨by omega, by omega⟩, ⟨by omega, by omega⟩, fun z => ?_, fun z => ⟨fun z2 => ?_, fun z2 => ⟨⟨by omega, by omega⟩, ⟨by omega, by omega⟩, fun z3 => ?_, fun z3 => ?_⟩⟩⟩
      · rw [if_pos (Or.inl z)] at hQ
        exact ih k _ _ _ _ (by omega) hQ
      · rw [if_neg (by omega)] at hQ
        exact ih b _ _ _ _ hb hQ
      · rw [if_neg (by omega)] at hQ
        exact ih b _ _ _ _ hb hQ
      · rw [if_pos (by omega)] at hQ
        exact ih k _ _ _ _ (by omega) hQ
    have L63 : ∀ (o7 : Option PV), L_M_nextBy_63 d Q M by_ (b : Int) (k : Int) ((row.getD k 0 : Nat) : Int) ((row.getD b 0 : Nat) : Int) (keyF J by_ F (row.getD k 0)) o7 := by
      intro o7
      have hb' := hrest _ mb
      refine b_M_nextBy_63 ?_
      rw [hJ, Int.toNat_natCast, show (4 * ((row.getD b 0 : Nat) : Int) + 2).toNat = 4 * row.getD b 0 + 2 by omega, show (4 * ((row.getD b 0 : Nat) : Int) + 1).toNat = 4 * row.getD b 0 + 1 by omega, hb'.1]
      refine ⟨⟨by omega, by omega⟩, fun z => ⟨fun z2 => ⟨⟨by omega, by omega⟩, ?_⟩, fun z2 => ⟨⟨by omega, by omega⟩, ?_⟩⟩, fun z => ⟨⟨by omega, by omega⟩, ?_⟩⟩
      · unfold keyF at L92
        rw [if_neg z, if_neg z2, if_neg z, if_neg z2] at L92
        have e : keyF J by_ F (row.getD k 0) = F 1 (row.getD k 0) := by unfold keyF; rw [if_neg z, if_neg z2]
        rw [e]; exact L92
      · unfold keyF at L92
        rw [if_neg z, if_pos (Classical.not_not.mp z2), if_neg z, if_pos (Classical.not_not.mp z2)] at L92
        have e : keyF J by_ F (row.getD k 0) = J (4 * row.getD k 0 + 2) := by unfold keyF; rw [if_neg z, if_pos (Classical.not_not.mp z2)]
        rw [e]; exact L92
      · unfold keyF at L92
        rw [if_pos (Classical.not_not.mp z), if_pos (Classical.not_not.mp z)] at L92
        have e : keyF J by_ F (row.getD k 0) = J (4 * row.getD k 0 + 1) := by unfold keyF; rw [if_pos (Classical.not_not.mp z)]
        rw [e]; exact L92
    have hk' := hrest _ mk
    refine b_M_nextBy_12 ?_
    rw [hw, Int.toNat_natCast, Int.toNat_natCast, hl.at_ (show k < row.length by omega), hl.at_ hb, hJ, Int.toNat_natCast, show (4 * ((row.getD k 0 : Nat) : Int) + 2).toNat = 4 * row.getD k 0 + 2 by omega, show (4 * ((row.getD k 0 : Nat) : Int) + 1).toNat = 4 * row.getD k 0 + 1 by omega, hk'.1]
    refine ⟨⟨by omega, by omega⟩, ⟨by omega, by omega⟩, fun z => absurd z (by omega), fun _ => ⟨⟨by omega, by omega⟩, fun z => absurd z (by omega), fun _ => ⟨fun z => absurd z (by omega), fun _ => ⟨fun z => absurd z (by omega), fun _ => ⟨⟨by omega, by omega⟩, ⟨by omega, by omega⟩, fun z => ⟨fun z2 => ⟨⟨by omega, by omega⟩, ?_⟩, fun z2 => ⟨⟨by omega, by omega⟩, ?_⟩⟩, fun z => ⟨⟨by omega, by omega⟩, ?_⟩⟩⟩⟩⟩⟩
    · have e : keyF J by_ F (row.getD k 0) = F 1 (row.getD k 0) := by unfold keyF; rw [if_neg z, if_neg z2]
      rw [← e]; exact L63 _
    · have e : keyF J by_ F (row.getD k 0) = J (4 * row.getD k 0 + 2) := by unfold keyF; rw [if_neg z, if_pos (Classical.not_not.mp z2)]
      rw [← e]; exact L63 _
    · have e : keyF J by_ F (row.getD k 0) = J (4 * row.getD k 0 + 1) := by unfold keyF; rw [if_pos (Classical.not_not.mp z)]
      rw [← e]; exact L63 _