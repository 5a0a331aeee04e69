/-! Little's law: the times, counted by ticks. -/
def wTk (J : Nat → Int) (t : Int) (x : SG) (k : Nat) : Int := if k < x.2.2.1 then (if x.2.2.2 0 k = 3 then t else x.2.2.2 3 k) - J (4 * k) else 0
section LIT
variable {n : Nat} {J : Nat → Int} {many t wait cap by_ space : Int} {x : SG}
theorem wT_congr {y : SG} {k : Nat} (h : y.2.2.1 = x.2.2.1) (h0 : y.2.2.2 0 k = x.2.2.2 0 k) (h3 : y.2.2.2 3 k = x.2.2.2 3 k) : wTk J t y k = wTk J t x k := by
  unfold wTk
  rw [h, h0, h3]
theorem wT_on {k : Nat} (h : k < x.2.2.1) (h3 : x.2.2.2 0 k = 3) : wTk J t x k = t - J (4 * k) := by
  unfold wTk
  rw [if_pos h, if_pos h3]
theorem wT_end {k : Nat} (h : k < x.2.2.1) (h3 : x.2.2.2 0 k ≠ 3) : wTk J t x k = x.2.2.2 3 k - J (4 * k) := by
  unfold wTk
  rw [if_pos h, if_neg h3]
theorem wT_go (hp : PVi n many t x) (k : Nat) : wTk J t (sGo J wait t x) k = wTk J t x k := by
  by_cases q : k ∈ x.1 ∧ gonD J wait t x.2.2.2 k = true
  · have hk := hp.2.2.1 k (List.mem_append_left _ q.1)
    have h0 : (sGo J wait t x).2.2.2 0 k = 1 := by show goF J wait t x.1 x.2.2.2 0 k = 1; unfold goF; rw [if_pos q]; rfl
    have h3 : (sGo J wait t x).2.2.2 3 k = t := by show goF J wait t x.1 x.2.2.2 3 k = t; unfold goF; rw [if_pos q]; rfl
    rw [wT_end (x := sGo J wait t x) hk (by rw [h0]; decide), h3, wT_on hk ((hp.2.2.2.2.1 k hk).1.mpr (List.mem_append_left _ q.1))]
  · refine wT_congr rfl ?_ ?_
    · show goF J wait t x.1 x.2.2.2 0 k = _; unfold goF; rw [if_neg q]
    · show goF J wait t x.1 x.2.2.2 3 k = _; unfold goF; rw [if_neg q]
theorem wT_in1 (hJ : J (4 * x.2.2.1) = t) (k : Nat) : wTk J t (sIn1 J cap t x) k = wTk J t x k := by
  have hn1 : (sIn1 J cap t x).2.2.1 = x.2.2.1 + 1 := by unfold sIn1; split <;> rfl
  by_cases e : k = x.2.2.1
  · subst e
    have h9 : wTk J t x x.2.2.1 = 0 := by unfold wTk; rw [if_neg (by omega)]
    rw [h9]
    unfold sIn1
    split
    · rw [wT_on (by show x.2.2.1 < x.2.2.1 + 1; omega) (by show upd2 (inF J t x.2.2.1 x.2.2.2) 0 x.2.2.1 3 0 x.2.2.1 = 3; exact u2_same)]
      omega
    · rw [wT_end (by show x.2.2.1 < x.2.2.1 + 1; omega) (by show upd2 (inF J t x.2.2.1 x.2.2.2) 0 x.2.2.1 2 0 x.2.2.1 ≠ 3; rw [u2_same]; decide)]
      show upd2 (inF J t x.2.2.1 x.2.2.2) 0 x.2.2.1 2 3 x.2.2.1 - _ = 0
      rw [in_F, if_pos rfl, if_neg (by decide), if_neg (by decide), if_pos rfl]
      omega
  · have hF := fun c => (sIn1_F (J := J) (cap := cap) (t := t) (x := x)).2.2 c k e
    unfold wTk
    rw [hn1, hF 0, hF 3]
    by_cases q : k < x.2.2.1
    · rw [if_pos q, if_pos (by omega)]
    · rw [if_neg q, if_neg (by omega)]
theorem wT_in : ∀ (f : Nat) (y : SG), (∀ i, i < n → y.2.2.1 ≤ i → t ≤ J (4 * i)) → ∀ k, wTk J t (sIn n J cap t f y) k = wTk J t y k
  | 0, _, _, _ => rfl
  | f + 1, y, h, k => by
    unfold sIn
    by_cases q : y.2.2.1 < n ∧ J (4 * y.2.2.1) ≤ t
    · rw [if_pos q]
      have hn1 : (sIn1 J cap t y).2.2.1 = y.2.2.1 + 1 := by unfold sIn1; split <;> rfl
      have hJ := h _ q.1 (Nat.le_refl _)
      rw [wT_in f _ (fun i hi hi2 => h i hi (by rw [hn1] at hi2; omega)) k, wT_in1 (by omega)]
    · rw [if_neg q]
theorem seat_F (f : Nat) (y : SG) : (sSeat J many by_ t f y).2.2.1 = y.2.2.1 ∧ ∀ c k, c ≠ 2 → (sSeat J many by_ t f y).2.2.2 c k = y.2.2.2 c k := by
  induction f generalizing y with
  | zero => exact ⟨rfl, fun _ _ _ => rfl⟩
  | succ f ih =>
    unfold sSeat
    by_cases q : (y.2.1.length : Int) < many ∧ 0 < y.1.length
    · rw [if_pos q]
      obtain ⟨h1, h2⟩ := ih (sSeat1 J by_ t y)
      refine ⟨h1, fun c k hc => ?_⟩
      rw [h2 c k hc]
      unfold sSeat1
      show (if _ = -1 then _ else y.2.2.2) c k = _
      split
      · rw [u2_off hc]
      · rfl
    · rw [if_neg q]
      exact ⟨rfl, fun _ _ _ => rfl⟩
/-- what a tick of work does, job by job -/
theorem wk_F : ∀ (L : List Nat) (y : SG), L.Nodup → (∀ i, i ∈ L → y.2.2.2 0 i = 3) → (sWk by_ t L y).2.2.1 = y.2.2.1 ∧ ∀ k, (k ∉ L → ∀ c, (sWk by_ t L y).2.2.2 c k = y.2.2.2 c k) ∧ (k ∈ L → (sWk by_ t L y).2.2.2 1 k = y.2.2.2 1 k - 1 ∧ ((sWk by_ t L y).2.2.2 0 k = 3 ∨ ((sWk by_ t L y).2.2.2 0 k = 0 ∧ (sWk by_ t L y).2.2.2 3 k = t + 1)) ∧ ((sWk by_ t L y).2.2.2 0 k = 3 ↔ ¬ y.2.2.2 1 k - 1 ≤ 0))
  | [], y, _, _ => ⟨rfl, fun k => ⟨fun _ _ => rfl, fun h => absurd h List.not_mem_nil⟩⟩
  | j :: L, y, hnd, h3 => by
    have hj := (List.nodup_cons.mp hnd).1
    have hL := (List.nodup_cons.mp hnd).2
    have ne : ∀ i, i ∈ L → i ≠ j := fun i hi e => hj (by rw [← e]; exact hi)
    have key : ∀ (y1 : SG), y1.2.2.1 = y.2.2.1 → (∀ c k, k ≠ j → y1.2.2.2 c k = y.2.2.2 c k) → y1.2.2.2 1 j = y.2.2.2 1 j - 1 → (y1.2.2.2 0 j = 3 ∨ (y1.2.2.2 0 j = 0 ∧ y1.2.2.2 3 j = t + 1)) → (y1.2.2.2 0 j = 3 ↔ ¬ y.2.2.2 1 j - 1 ≤ 0) → sWk by_ t (j :: L) y = sWk by_ t L y1 →
        (sWk by_ t (j :: L) y).2.2.1 = y.2.2.1 ∧ ∀ k, (k ∉ j :: L → ∀ c, (sWk by_ t (j :: L) y).2.2.2 c k = y.2.2.2 c k) ∧ (k ∈ j :: L → (sWk by_ t (j :: L) y).2.2.2 1 k = y.2.2.2 1 k - 1 ∧ ((sWk by_ t (j :: L) y).2.2.2 0 k = 3 ∨ ((sWk by_ t (j :: L) y).2.2.2 0 k = 0 ∧ (sWk by_ t (j :: L) y).2.2.2 3 k = t + 1)) ∧ ((sWk by_ t (j :: L) y).2.2.2 0 k = 3 ↔ ¬ y.2.2.2 1 k - 1 ≤ 0)) := by
      intro y1 e1 e2 e3 e4 e5 e6
      obtain ⟨g1, g2⟩ := wk_F L y1 hL (fun i hi => by rw [e2 0 i (ne i hi)]; exact h3 i (List.mem_cons_of_mem _ hi))
      rw [e6]
      refine ⟨g1.trans e1, fun k => ⟨fun hk c => ?_, fun hk => ?_⟩⟩
      · rw [(g2 k).1 (fun z => hk (List.mem_cons_of_mem _ z)) c, e2 c k (fun z => hk (by rw [z]; exact List.mem_cons_self))]
      · rcases List.mem_cons.mp hk with z | z
        · subst z
          have g := (g2 k).1 hj
          rw [g 0, g 1, g 3]
          exact ⟨e3, e4, e5⟩
        · have g := (g2 k).2 z
          rw [e2 1 k (ne k z)] at g
          exact g
    by_cases q : y.2.2.2 1 j - 1 ≤ 0
    · refine key (y.1, y.2.1, y.2.2.1, upd2 (upd2 (upd2 y.2.2.2 1 j (y.2.2.2 1 j - 1)) 0 j 0) 3 j (t + 1)) rfl (fun c k hk => ?_) ?_ (Or.inr ⟨?_, ?_⟩) ⟨fun z => ?_, fun z => absurd q z⟩ (by
        show (if y.2.2.2 1 j - 1 ≤ 0 then _ else _) = _
        rw [if_pos q])
      · show upd2 (upd2 (upd2 y.2.2.2 1 j _) 0 j 0) 3 j (t + 1) c k = _
        rw [u2', if_neg (fun w => hk w.2), u2', if_neg (fun w => hk w.2), u2', if_neg (fun w => hk w.2)]
      · show upd2 (upd2 (upd2 y.2.2.2 1 j (y.2.2.2 1 j - 1)) 0 j 0) 3 j (t + 1) 1 j = _
        rw [u2_off (by decide), u2_off (by decide), u2_same]
      · show upd2 (upd2 (upd2 y.2.2.2 1 j (y.2.2.2 1 j - 1)) 0 j 0) 3 j (t + 1) 0 j = 0
        rw [u2_off (by decide), u2_same]
      · show upd2 (upd2 (upd2 y.2.2.2 1 j (y.2.2.2 1 j - 1)) 0 j 0) 3 j (t + 1) 3 j = t + 1
        exact u2_same
      · have z : upd2 (upd2 (upd2 y.2.2.2 1 j (y.2.2.2 1 j - 1)) 0 j 0) 3 j (t + 1) 0 j = 3 := z
        rw [u2_off (by decide), u2_same] at z
        exact absurd z (by decide)
    · have hj3 := h3 j List.mem_cons_self
      have a9 : upd2 y.2.2.2 1 j (y.2.2.2 1 j - 1) 1 j = y.2.2.2 1 j - 1 := u2_same
      have a1 : ∀ c k, k ≠ j → upd2 y.2.2.2 1 j (y.2.2.2 1 j - 1) c k = y.2.2.2 c k := fun c k hk => by rw [u2', if_neg (fun w => hk w.2)]
      have a0 : upd2 y.2.2.2 1 j (y.2.2.2 1 j - 1) 0 j = 3 := by rw [u2_off (by decide)]; exact hj3
      by_cases q4 : 4 ≤ by_
      · exact key (y.1 ++ [j], y.2.1, y.2.2.1, upd2 y.2.2.2 1 j (y.2.2.2 1 j - 1)) rfl a1 a9 (Or.inl a0) ⟨fun _ => q, fun _ => a0⟩ (by
          show (if y.2.2.2 1 j - 1 ≤ 0 then _ else if 4 ≤ by_ then _ else _) = _
          rw [if_neg q, if_pos q4])
      · exact key (y.1, y.2.1 ++ [j], y.2.2.1, upd2 y.2.2.2 1 j (y.2.2.2 1 j - 1)) rfl a1 a9 (Or.inl a0) ⟨fun _ => q, fun _ => a0⟩ (by
          show (if y.2.2.2 1 j - 1 ≤ 0 then _ else if 4 ≤ by_ then _ else _) = _
          rw [if_neg q, if_neg q4])
theorem wT_work (hp : PVi n many t x) (k : Nat) : wTk J (t + 1) (sWork by_ t x) k = wTk J t x k + if k ∈ x.1 ++ x.2.1 then 1 else 0 := by
  have hnd : x.2.1.Nodup := (List.nodup_append.mp hp.2.1).2.1
  have h3 : ∀ i, i ∈ x.2.1 → x.2.2.2 0 i = 3 := fun i hi => (hp.2.2.2.2.1 i (hp.2.2.1 i (List.mem_append_right _ hi))).1.mpr (List.mem_append_right _ hi)
  obtain ⟨g1, g2⟩ := wk_F (by_ := by_) (t := t) x.2.1 (x.1, [], x.2.2.1, x.2.2.2) hnd h3
  have g1 : (sWork by_ t x).2.2.1 = x.2.2.1 := g1
  have hb : wTk J (t + 1) x k = wTk J t x k + if k ∈ x.1 ++ x.2.1 then 1 else 0 := by
    by_cases hk : k < x.2.2.1
    · have h5 := (hp.2.2.2.2.1 k hk).1
      by_cases q : k ∈ x.1 ++ x.2.1
      · rw [wT_on hk (h5.mpr q), wT_on hk (h5.mpr q), if_pos q]
        omega
      · rw [wT_end hk (fun z => q (h5.mp z)), wT_end hk (fun z => q (h5.mp z)), if_neg q]
        omega
    · have q : k ∉ x.1 ++ x.2.1 := fun z => hk (hp.2.2.1 k z)
      unfold wTk
      rw [if_neg hk, if_neg hk, if_neg q]
      rfl
  rw [← hb]
  by_cases q : k ∈ x.2.1
  · have hk := hp.2.2.1 k (List.mem_append_right _ q)
    rw [wT_on hk (h3 k q)]
    obtain ⟨-, g, -⟩ := (g2 k).2 q
    rcases g with z | ⟨z, z3⟩
    · exact wT_on (by rw [g1]; exact hk) z
    · have z : (sWork by_ t x).2.2.2 0 k = 0 := z
      have z3 : (sWork by_ t x).2.2.2 3 k = t + 1 := z3
      rw [wT_end (by rw [g1]; exact hk) (by rw [z]; decide), z3]
  · have g := (g2 k).1 q
    exact wT_congr g1 (g 0) (g 3)
theorem little {T : Nat} (hV : VJ n J) (hm : 1 ≤ many) : ∀ t : Nat, sumN (nmF n J many by_ space wait) t = sumN (wTk J t (sAt n J many by_ space wait t)) n
  | 0 => by
    have : sumN (wTk J (0 : Nat) (sAt n J many by_ space wait 0)) n = sumN (fun _ => 0) n := sumN_congr n fun k _ => if_neg (Nat.not_lt_zero k)
    rw [this]
    have : ∀ m, sumN (fun _ => (0 : Int)) m = 0 := by
      intro m
      induction m with
      | zero => rfl
      | succ m ih => show sumN (fun _ => 0) m + 0 = 0; rw [ih]; rfl
    rw [this]
    rfl
  | t + 1 => by
    have ih := little (T := T) hV hm t
    have hI := at_inv (by_ := by_) (space := space) (wait := wait) hV hm t
    show sumN (nmF n J many by_ space wait) t + nmF n J many by_ space wait t = _
    rw [ih]
    have hp := mid_pvi (by_ := by_) (space := space) (wait := wait) (by omega) hV hI.1
    have e : sAt n J many by_ space wait (t + 1) = sWork by_ (t : Int) (sMid n J many by_ space wait (t : Int) (sAt n J many by_ space wait t)) := rfl
    have hmid : ∀ k, wTk J (t : Int) (sMid n J many by_ space wait (t : Int) (sAt n J many by_ space wait t)) k = wTk J (t : Int) (sAt n J many by_ space wait t) k := fun k => by
      obtain ⟨s1, s2⟩ := seat_F (J := J) (many := many) (by_ := by_) (t := (t : Int)) 24 (sIn n J (many + space) t 24 (sGo J wait t (sAt n J many by_ space wait t)))
      have : wTk J (t : Int) (sMid n J many by_ space wait (t : Int) (sAt n J many by_ space wait t)) k = wTk J (t : Int) (sIn n J (many + space) t 24 (sGo J wait t (sAt n J many by_ space wait t))) k := wT_congr s1 (s2 0 k (by decide)) (s2 3 k (by decide))
      rw [this, wT_in 24 (sGo J wait t (sAt n J many by_ space wait t)) (fun i hi hi2 => hI.2.2.1 i hi hi2), wT_go hI.1]
    have hsum : sumN (wTk J ((t + 1 : Nat) : Int) (sAt n J many by_ space wait (t + 1))) n = sumN (fun k => wTk J (t : Int) (sAt n J many by_ space wait t) k + if k ∈ (sMid n J many by_ space wait (t : Int) (sAt n J many by_ space wait t)).1 ++ (sMid n J many by_ space wait (t : Int) (sAt n J many by_ space wait t)).2.1 then 1 else 0) n := sumN_congr n fun k _ => by
      rw [e, ← hmid k]
      exact wT_work hp k
    have hadd : ∀ (a b : Nat → Int) m, sumN (fun k => a k + b k) m = sumN a m + sumN b m := by
      intro a b m
      induction m with
      | zero => rfl
      | succ m ihm =>
        show sumN (fun k => a k + b k) m + (a m + b m) = sumN a m + a m + (sumN b m + b m)
        rw [ihm]
        omega
    rw [hsum, hadd, sumN_ind _ n hp.2.1 (fun j hj => by have := hp.2.2.1 j hj; have := hp.1; omega), List.length_append]
    show _ + sNum (sMid n J many by_ space wait (t : Int) (sAt n J many by_ space wait t)) = _
    unfold sNum
    omega
theorem e1_all (hV : VJ n J) (hm : 1 ≤ many) : e1P n J many by_ space wait := fun T hT => by
  have hI := at_inv (by_ := by_) (space := space) (wait := wait) hV hm T
  obtain ⟨q1, q2, q3, q4⟩ := off_all (J := J) hI.1 hT.2
  rw [little (T := T) hV hm T]
  refine sumN_congr n fun k hk => ?_
  rw [wT_end (by omega) (q4 k hk).1]
end LIT
