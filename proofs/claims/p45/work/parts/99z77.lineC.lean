/-! The class's line: what is kept of plays, and what is asked of them. -/
abbrev oP (r : Nat) : PV := .inr (.inr (.inl r))
def PT (n : Nat) (J : Nat → Int) (many by_ space wait : Int) (T : Nat) : Prop := (∀ s, s < T → sOn n (sAt n J many by_ space wait s)) ∧ ¬ sOn n (sAt n J many by_ space wait T)
theorem PT.uniq {n : Nat} {J : Nat → Int} {many by_ space wait : Int} {T U : Nat} (h : PT n J many by_ space wait T) (g : PT n J many by_ space wait U) : T = U := by
  rcases Nat.lt_trichotomy T U with q | q | q
  · exact absurd (g.1 T q) h.2
  · exact q
  · exact absurd (h.1 U q) g.2
theorem RunC.pt {M : Mem} {r n : Nat} {J : Nat → Int} {many by_ space wait : Int} {T : Nat} (h : RunC M r n J many by_ space wait T) : PT n J many by_ space wait T := ⟨h.1, h.2.1⟩
theorem RunR.pt {M : Mem} {n : Nat} {J : Nat → Int} {many by_ space wait : Int} {T : Nat} (h : RunR M n J many by_ space wait T) : PT n J many by_ space wait T := ⟨h.1, h.2.1⟩
theorem PT.wait {n : Nat} {J : Nat → Int} {many by_ space w w' : Int} {T : Nat} (hV : VJ n J) (hm : 1 ≤ many) (h1 : 961 ≤ w) (h2 : 961 ≤ w') (h : PT n J many by_ space w T) : PT n J many by_ space w' T := by
  refine ⟨fun s hs => ?_, ?_⟩
  · rw [← sAt_wait hV hm h1 h2 s]; exact h.1 s hs
  · rw [← sAt_wait hV hm h1 h2 T]; exact h.2
theorem pSum_wait {n : Nat} {J : Nat → Int} {many by_ space w w' : Int} {T : Nat} (hV : VJ n J) (hm : 1 ≤ many) (h1 : 961 ≤ w) (h2 : 961 ≤ w') : pSum n J many by_ space w T = pSum n J many by_ space w' T := by
  unfold pSum
  rw [sAt_wait hV hm h1 h2 T]
theorem PT.le {n : Nat} {J : Nat → Int} {many by_ space wait : Int} {T : Nat} (hV : VJ n J) (hm : 1 ≤ many) (h : PT n J many by_ space wait T) : T ≤ 1461 := by
  rcases Nat.lt_or_ge T 1 with q | q
  · omega
  · have := on_bound hV hm (t := T - 1) (fun s hs => h.1 s (by omega))
    omega
/-- what is known of each job at the end -/
theorem PT.job {n : Nat} {J : Nat → Int} {many by_ space wait : Int} {T : Nat} (hV : VJ n J) (hm : 1 ≤ many) (h : PT n J many by_ space wait T) {k : Nat} (hk : k < n) : (0 ≤ (sAt n J many by_ space wait T).2.2.2 0 k ∧ (sAt n J many by_ space wait T).2.2.2 0 k ≤ 2) ∧ (-1 ≤ (sAt n J many by_ space wait T).2.2.2 2 k ∧ (sAt n J many by_ space wait T).2.2.2 2 k ≤ 1461) ∧ (0 ≤ (sAt n J many by_ space wait T).2.2.2 3 k ∧ (sAt n J many by_ space wait T).2.2.2 3 k ≤ 1462) ∧ 0 ≤ J (4 * k) ∧ J (4 * k) ≤ 500 := by
  have hI := at_inv (by_ := by_) (space := space) (wait := wait) hV hm T
  obtain ⟨e1, _, _, e4⟩ := off_all (J := J) hI.1 h.2
  have hT := h.le hV hm
  obtain ⟨_, _, _, a4, a5, a6, a7⟩ := hI.1.2.2.2.2.1 k (by omega)
  have := e4 k hk
  have := (hV.2.1 k hk).1
  exact ⟨⟨by omega, by omega⟩, ⟨by omega, by omega⟩, ⟨by omega, by omega⟩, by omega, by omega⟩
theorem s_timeOf {d : Nat} {M : Mem} {r k : Nat} (hr : IsPlay r) (hk : k < 24) : Post (d + 2) cP_timeOf [oP r, oJ, .inl (k : Int)] M (fun v M' => M' = M ∧ v = M (r + 4) k - M 94 (4 * k)) := by
  intro Q hQ
  refine e_P_timeOf hr (b_P_timeOf_0 hr ⟨⟨by omega, by omega⟩, ?_⟩)
  refine (s_Jpart (d := d) (p := 0) hk (by decide)).cal fun v1 M1 hM1 => ?_
  obtain ⟨rfl, rfl⟩ := hM1
  rw [Int.toNat_natCast]
  exact hQ _ _ ⟨rfl, rfl⟩
theorem sot_loop {d : Nat} {Q : Rs → Mem → Prop} {M : Mem} {r n : Nat} {f : Nat → Int} (hr : IsPlay r) (hn : M 117 0 = n) (h24 : n ≤ 24) (hf : ∀ k, k < n → M (r + 4) k - M 94 (4 * k) = f k) (hQ : Q (.inl (sumN f n)) M) : ∀ (m k : Nat), k + m = n → L_P_sumOfTimes_4 (d + 2) Q M r (sumN f k) (k : Int)
  | m, k, hk => by
    refine b_P_sumOfTimes_4 hr ?_
    rw [hn]
    refine ⟨⟨by omega, by omega⟩, ⟨by omega, by omega⟩, fun z => ?_, fun z => ?_⟩
    · have e : k = n := by omega
      subst e
      exact hQ
    · refine (s_timeOf (d := d) hr (by omega)).cal fun v1 M1 hM1 => ?_
      obtain ⟨rfl, rfl⟩ := hM1
      rw [hf k (by omega)]
      cases m with
      | zero => omega
      | succ m => exact sot_loop hr hn h24 hf hQ m (k + 1) (by omega)
theorem s_sumOfTimes {d : Nat} {M : Mem} {r n : Nat} {f : Nat → Int} (hr : IsPlay r) (hn : M 117 0 = n) (h24 : n ≤ 24) (hf : ∀ k, k < n → M (r + 4) k - M 94 (4 * k) = f k) : Post (d + 3) cP_sumOfTimes [oP r, oJ] M (fun v M' => M' = M ∧ v = sumN f n) := fun Q hQ => e_P_sumOfTimes hr (b_P_sumOfTimes_0 hr (sot_loop (d := d) hr hn h24 hf (hQ _ _ ⟨rfl, rfl⟩) n 0 (by omega)))
def maxN (f : Nat → Int) : Nat → Int
  | 0 => 0
  | k + 1 => max (maxN f k) (f k)
theorem maxN_congr {f g : Nat → Int} : ∀ n, (∀ k, k < n → f k = g k) → maxN f n = maxN g n
  | 0, _ => rfl
  | n + 1, h => by
    show max (maxN f n) (f n) = max (maxN g n) (g n)
    rw [maxN_congr n (fun k hk => h k (by omega)), h n (by omega)]
theorem maxN_r {f : Nat → Int} : ∀ n, (∀ k, k < n → f k ≤ 2000) → 0 ≤ maxN f n ∧ maxN f n ≤ 2000
  | 0, _ => ⟨Int.le_refl 0, by show (0 : Int) ≤ 2000; decide⟩
  | n + 1, h => by
    have h1 := maxN_r n (fun k hk => h k (by omega))
    have h2 := h n (by omega)
    show 0 ≤ max (maxN f n) (f n) ∧ max (maxN f n) (f n) ≤ 2000
    omega
theorem lt_loop {d : Nat} {Q : Rs → Mem → Prop} {M : Mem} {r n : Nat} {f : Nat → Int} (hr : IsPlay r) (hn : M 117 0 = n) (h24 : n ≤ 24) (hf : ∀ k, k < n → M (r + 4) k - M 94 (4 * k) = f k) (hb : ∀ k, k < n → -2000 ≤ f k ∧ f k ≤ 2000) (hQ : Q (.inl (maxN f n)) M) : ∀ (m k : Nat), k + m = n → L_P_longestTime_4 (d + 2) Q M r (maxN f k) (k : Int)
  | m, k, hk => by
    have hm := maxN_r (f := f) k fun i hi => (hb i (by omega)).2
    refine b_P_longestTime_4 hr ?_
    rw [hn]
    refine ⟨⟨by omega, by omega⟩, ⟨by omega, by omega⟩, fun z => ?_, fun z => ?_⟩
    · have e : k = n := by omega
      subst e
      exact hQ
    · refine (s_timeOf (d := d) hr (by omega)).cal fun v1 M1 hM1 => ?_
      obtain ⟨rfl, rfl⟩ := hM1
      have := hb k (by omega)
      rw [hf k (by omega)]
      refine ⟨⟨by omega, by omega⟩, ⟨by omega, by omega⟩, ?_⟩
      cases m with
      | zero => omega
      | succ m => exact lt_loop hr hn h24 hf hb hQ m (k + 1) (by omega)
theorem s_longestTime {d : Nat} {M : Mem} {r n : Nat} {f : Nat → Int} (hr : IsPlay r) (hn : M 117 0 = n) (h24 : n ≤ 24) (hf : ∀ k, k < n → M (r + 4) k - M 94 (4 * k) = f k) (hb : ∀ k, k < n → -2000 ≤ f k ∧ f k ≤ 2000) : Post (d + 3) cP_longestTime [oP r, oJ] M (fun v M' => M' = M ∧ v = maxN f n) := fun Q hQ => e_P_longestTime hr (b_P_longestTime_0 hr (lt_loop (d := d) hr hn h24 hf hb (hQ _ _ ⟨rfl, rfl⟩) n 0 (by omega)))
theorem son_loop {d : Nat} {Q : Rs → Mem → Prop} {M : Mem} {r T : Nat} {f : Nat → Int} (hr : IsPlay r) (hT : M r 4 = T) (h15 : T ≤ 1500) (hf : ∀ k, k < T → M (r + 1) k = f k) (hQ : Q (.inl (sumN f T)) M) : ∀ (m k : Nat), k + m = T → L_P_sumOfNumbers_4 d Q M r (sumN f k) (k : Int)
  | m, k, hk => by
    refine b_P_sumOfNumbers_4 hr ?_
    rw [hT, Int.toNat_natCast]
    refine ⟨⟨by omega, by omega⟩, ⟨by omega, by omega⟩, fun z => ?_, fun z => ⟨⟨by omega, by omega⟩, ?_⟩⟩
    · have e : k = T := by omega
      subst e
      exact hQ
    · rw [hf k (by omega)]
      cases m with
      | zero => omega
      | succ m => exact son_loop hr hT h15 hf hQ m (k + 1) (by omega)
theorem s_sumOfNumbers {d : Nat} {M : Mem} {r T : Nat} {f : Nat → Int} (hr : IsPlay r) (hT : M r 4 = T) (h15 : T ≤ 1500) (hf : ∀ k, k < T → M (r + 1) k = f k) : Post (d + 1) cP_sumOfNumbers [oP r] M (fun v M' => M' = M ∧ v = sumN f T) := fun Q hQ => e_P_sumOfNumbers hr (b_P_sumOfNumbers_0 hr (son_loop hr hT h15 hf (hQ _ _ ⟨rfl, rfl⟩) T 0 (by omega)))
theorem iP1 : IsPlay 54 := Or.inl rfl
theorem iP2 : IsPlay 63 := Or.inr rfl
/-- the line, and the play of it if it is kept -/
def lineOk (many by_ space wait : Int) : Prop := (1 ≤ many ∧ many ≤ 4) ∧ (0 ≤ space ∧ space ≤ 24) ∧ (0 ≤ by_ ∧ by_ ≤ 5) ∧ 1 ≤ wait ∧ wait ≤ 999
def lineC (M : Mem) (n : Nat) (J : Nat → Int) (many by_ space wait : Int) : Prop := M 54 0 = many ∧ M 54 1 = by_ ∧ M 54 2 = space ∧ M 54 3 = wait ∧ lineOk many by_ space wait ∧ (M 149 7 = 0 ∨ (M 149 7 = 1 ∧ ∃ T, RunC M 54 n J many by_ space wait T))
theorem s_playLine {d : Nat} {M : Mem} {n : Nat} {J : Nat → Int} {many by_ space wait : Int} (hV : VJ n J) (hn : M 117 0 = n) (hJ : M 94 = J) (h : lineC M n J many by_ space wait) :
    Post (d + 5) cQ_playLine [oQ] M (fun _ M' => Fr (149 :: pcs 54) M M' ∧ (∀ s, s ≠ 7 → M' 149 s = M 149 s) ∧ M' 149 7 = 1 ∧ M' 54 0 = many ∧ M' 54 1 = by_ ∧ M' 54 2 = space ∧ M' 54 3 = wait ∧ ∃ T, RunC M' 54 n J many by_ space wait T) := by
  intro Q hQ
  obtain ⟨h0, h1, h2, h3, ⟨k1, k2, k3, k4, k5⟩, h7⟩ := h
  refine e_Q_playLine (b_Q_playLine_0 ⟨?_, fun z => ?_, fun z => ?_⟩)
  · rcases h7 with e | ⟨e, _⟩ <;> rw [e] <;> exact ⟨by decide, by decide⟩
  · rcases h7 with e | ⟨e, T, hT⟩
    · exact absurd e z
    · exact hQ _ _ ⟨Fr.rfl', fun _ _ => rfl, e, h0, h1, h2, h3, T, hT⟩
  · refine (s_run (d := d) iP1 hV hn hJ k1 k2 k3 ⟨k4, k5⟩ h0 h1 h2 h3).cal fun v1 M1 hM1 => ?_
    obtain ⟨f1, ⟨T, hT⟩, g0, g1, g2, g3⟩ := hM1
    refine hQ _ _ ⟨((f1.mono (fun a ha => List.mem_cons_of_mem _ ha)).u2 (by simp)), fun s hs => ?_, u2_same, ?_, ?_, ?_, ?_, T, ?_⟩
    · rw [u2_ne hs, f1 149 (by decide)]
    · rw [u2_off (by decide)]; exact g0
    · rw [u2_off (by decide)]; exact g1
    · rw [u2_off (by decide)]; exact g2
    · rw [u2_off (by decide)]; exact g3
    · unfold RunC at hT ⊢
      rw [u2_off (show (54 : Nat) ≠ 149 by decide), u2_off (show 54 + 1 ≠ 149 by decide), u2_off (show 54 + 2 ≠ 149 by decide), u2_off (show 54 + 3 ≠ 149 by decide), u2_off (show 54 + 4 ≠ 149 by decide)]
      exact hT
/-- the times of a play -/
def pTime (n : Nat) (J : Nat → Int) (many by_ space wait : Int) (T k : Nat) : Int := (sAt n J many by_ space wait T).2.2.2 3 k - J (4 * k)
/-- the sums kept of each rule on one server -/
def freeC (M : Mem) (n : Nat) (J : Nat → Int) : Prop := (∀ r : Nat, r < 6 → M 148 r = -1 ∨ ∃ T, PT n J 1 (r : Int) 24 999 T ∧ M 148 r = pSum n J 1 (r : Int) 24 999 T) ∧ (M 148 0 ≠ -1 → ∃ T, PT n J 1 0 24 999 T ∧ M 149 6 = maxN (pTime n J 1 0 24 999 T) n)
theorem pSum_r {n : Nat} {J : Nat → Int} {many by_ space wait : Int} {T : Nat} (hV : VJ n J) (hm : 1 ≤ many) (h : PT n J many by_ space wait T) : -50000 ≤ pSum n J many by_ space wait T ∧ pSum n J many by_ space wait T ≤ 50000 := by
  have key : ∀ m, m ≤ n → -2000 * (m : Int) ≤ sumN (pTime n J many by_ space wait T) m ∧ sumN (pTime n J many by_ space wait T) m ≤ 2000 * (m : Int) := by
    intro m
    induction m with
    | zero => intro _; exact ⟨Int.le_refl 0, Int.le_refl 0⟩
    | succ m ih =>
      intro hm'
      have h1 := ih (by omega)
      obtain ⟨_, _, h3, h4⟩ := h.job hV hm (show m < n by omega)
      have e : pTime n J many by_ space wait T m = (sAt n J many by_ space wait T).2.2.2 3 m - J (4 * m) := rfl
      show -2000 * ((m + 1 : Nat) : Int) ≤ sumN (pTime n J many by_ space wait T) m + pTime n J many by_ space wait T m ∧ sumN (pTime n J many by_ space wait T) m + pTime n J many by_ space wait T m ≤ 2000 * ((m + 1 : Nat) : Int)
      omega
  have := key n (Nat.le_refl n)
  have := hV.1
  unfold pSum
  show -50000 ≤ sumN (pTime n J many by_ space wait T) n ∧ sumN (pTime n J many by_ space wait T) n ≤ 50000
  omega
theorem s_freeSum {d : Nat} {M : Mem} {n r : Nat} {J : Nat → Int} (hV : VJ n J) (hn : M 117 0 = n) (hJ : M 94 = J) (h : freeC M n J) (hr : r < 6) :
    Post (d + 5) cQ_freeSum [oQ, .inl (r : Int)] M (fun v M' => Fr (148 :: 149 :: pcs 63) M M' ∧ (∀ s, s ≠ 6 → M' 149 s = M 149 s) ∧ freeC M' n J ∧ (∃ T, PT n J 1 (r : Int) 24 999 T ∧ v = pSum n J 1 (r : Int) 24 999 T) ∧ M' 148 r ≠ -1) := by
  intro Q hQ
  have h24 := hV.1
  have hR : R32 (M 148 r) := by
    rcases h.1 r hr with e | ⟨T, hT, e⟩
    · rw [e]; exact ⟨by decide, by decide⟩
    · have := pSum_r hV (by decide) hT
      rw [e]; exact ⟨by omega, by omega⟩
  refine e_Q_freeSum (b_Q_freeSum_0 ?_)
  rw [Int.toNat_natCast]
  refine ⟨⟨by omega, by omega⟩, hR, fun z => ?_, fun z => ?_⟩
  · rcases h.1 r hr with e | ⟨T, hT, e⟩
    · exact absurd e z
    · exact hQ _ _ ⟨Fr.rfl', fun _ _ => rfl, h, ⟨T, hT, e⟩, z⟩
  · refine Post.cal (P := fun _ M' => M' = upd2 (upd2 (upd2 (upd2 M 63 0 1) 63 1 (r : Int)) 63 2 24) 63 3 999) (fun Q' hQ' => e_P_set iP2 (b_P_set_0 iP2 (hQ' _ _ rfl))) fun v1 M1 hM1 => ?_
    have f1 : Fr [63] M M1 := by rw [hM1]; exact (((Fr.rfl'.u2 (by simp)).u2 (by simp)).u2 (by simp)).u2 (by simp)
    refine (s_run (d := d) (r := 63) (many := 1) (by_ := (r : Int)) (space := 24) (wait := 999) iP2 hV (by rw [f1 117 (by decide)]; exact hn) (by rw [f1 94 (by decide)]; exact hJ) ⟨by decide, by decide⟩ ⟨by decide, by decide⟩ ⟨by omega, by omega⟩ ⟨by decide, by decide⟩ ?_ ?_ ?_ ?_).cal fun v2 M2 hM2 => ?_
    · rw [hM1, u2_ne (by decide), u2_ne (by decide), u2_ne (by decide), u2_same]
    · rw [hM1, u2_ne (by decide), u2_ne (by decide), u2_same]
    · rw [hM1, u2_ne (by decide), u2_same]
    · rw [hM1, u2_same]
    obtain ⟨f2, ⟨T, hT⟩, _⟩ := hM2
    have hPT := hT.pt
    have e117 : M2 117 0 = n := by rw [f2 117 (by decide), f1 117 (by decide)]; exact hn
    have e94 : M2 94 = J := by rw [f2 94 (by decide), f1 94 (by decide)]; exact hJ
    have hf : ∀ k, k < n → M2 (63 + 4) k - M2 94 (4 * k) = pTime n J 1 (r : Int) 24 999 T k := fun k hk => by
      rw [(hT.2.2.2.2 k hk).2.2, e94]; rfl
    refine (s_sumOfTimes (d := d + 1) iP2 e117 h24 hf).cal fun v3 M3 hM3 => ?_
    obtain ⟨rfl, rfl⟩ := hM3
    have es : sumN (pTime n J 1 (r : Int) 24 999 T) n = pSum n J 1 (r : Int) 24 999 T := rfl
    rw [es, u2_same]
    have F3 : Fr (148 :: 149 :: pcs 63) M (upd2 M3 148 r (pSum n J 1 (r : Int) 24 999 T)) := ((f1.mono (by simp)).tr (f2.mono (fun a ha => List.mem_cons_of_mem _ (List.mem_cons_of_mem _ ha)))).u2 (by simp)
    have e148 : M3 148 = M 148 := by rw [f2 148 (by decide), f1 148 (by decide)]
    have e149 : M3 149 = M 149 := by rw [f2 149 (by decide), f1 149 (by decide)]
    have hs := pSum_r hV (by decide) hPT
    have hne : pSum n J 1 (r : Int) 24 999 T ≠ -1 := by
      have := sumN_le (f := fun _ => 0) (g := pTime n J 1 (r : Int) 24 999 T) n (fun k hk => time_nn hV (by decide) hPT.2 k hk)
      have h0 : ∀ m, sumN (fun _ => (0 : Int)) m = 0 := fun m => by
        induction m with
        | zero => rfl
        | succ m ih => show sumN (fun _ => (0 : Int)) m + 0 = 0; omega
      rw [h0] at this
      have h2 : 0 ≤ pSum n J 1 (r : Int) 24 999 T := this
      omega
    have part1 : ∀ (A : Mem), A 148 = sr (M 148) r (pSum n J 1 (r : Int) 24 999 T) → ∀ q : Nat, q < 6 → A 148 q = -1 ∨ ∃ T, PT n J 1 (q : Int) 24 999 T ∧ A 148 q = pSum n J 1 (q : Int) 24 999 T := by
      intro A hA q hq
      rw [hA]
      by_cases e : q = r
      · subst e; rw [sr_same]; exact Or.inr ⟨T, hPT, rfl⟩
      · rw [sr_ne e]; exact h.1 q hq
    refine ⟨⟨by omega, by omega⟩, fun z2 => ?_, fun z2 => ?_⟩
    · have hr0 : r ≠ 0 := by omega
      refine hQ _ _ ⟨F3, fun s _ => by rw [u2_off (by decide), e149], ⟨part1 _ (by rw [u2_row, e148]), fun y => ?_⟩, ⟨T, hPT, rfl⟩, by rw [u2_same]; exact hne⟩
      rw [u2_ne (Ne.symm hr0), e148] at y
      rw [u2_off (by decide), e149]
      exact h.2 y
    · have hr0 : r = 0 := by omega
      subst hr0
      have f4 : Fr [148] M3 (upd2 M3 148 0 (pSum n J 1 ((0 : Nat) : Int) 24 999 T)) := Fr.rfl'.u2 (by simp)
      refine (s_longestTime (d := d + 1) (n := n) (f := pTime n J 1 ((0 : Nat) : Int) 24 999 T) iP2 (by rw [f4 117 (by decide)]; exact e117) h24 (fun k hk => ?_) (fun k hk => ?_)).cal fun v5 M5 hM5 => ?_
      · rw [f4 (63 + 4) (by decide), f4 94 (by decide)]; exact hf k hk
      · obtain ⟨_, _, h3, h4⟩ := hPT.job hV (by decide) hk
        unfold pTime
        omega
      obtain ⟨rfl, rfl⟩ := hM5
      rw [u2_same]
      refine hQ _ _ ⟨F3.u2 (by simp), fun s hs => by rw [u2_ne hs, u2_off (by decide), e149], ⟨part1 _ (by rw [u2_off (by decide), u2_row, e148]), fun _ => ⟨T, hPT, u2_same⟩⟩, ⟨T, hPT, rfl⟩, by rw [u2_off (by decide), u2_same]; exact hne⟩
