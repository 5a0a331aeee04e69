/-! The class plays: letGo, letIn. -/
/-- a play in the class's memory -/
def CPl (M : Mem) (r : Nat) (J : Nat → Int) (many by_ space wait : Int) (x : SG) : Prop :=
  M r 0 = many ∧ M r 1 = by_ ∧ M r 2 = space ∧ M r 3 = wait ∧ M r 12 = x.1.length ∧ M r 14 = x.2.1.length ∧ M r 15 = x.2.2.1 ∧ LM (M (r + 7)) x.1 ∧ LM (M (r + 8)) x.2.1 ∧
  ∀ k, k < x.2.2.1 → M (r + 2) k = x.2.2.2 0 k ∧ M (r + 3) k = x.2.2.2 2 k ∧ M (r + 4) k = x.2.2.2 3 k ∧ M (r + 5) k = x.2.2.2 1 k ∧ M (r + 6) k = if by_ = 3 then J (4 * k + 2) else J (4 * k + 1)
theorem erase_filter : ∀ (l : List Nat) (p : Nat), l.Nodup → p < l.length → l.eraseIdx p = l.filter (fun j => decide (j ≠ l.getD p 0))
  | [], p, _, h => absurd h (by simp)
  | a :: l, 0, hn, _ => by
    have ha := (List.nodup_cons.mp hn).1
    show l = (a :: l).filter (fun j => decide (j ≠ a))
    rw [List.filter_cons_of_neg (by simp)]
    exact (List.filter_eq_self.mpr fun j hj => by simp; exact fun e => ha (by rw [← e]; exact hj)).symm
  | a :: l, p + 1, hn, h => by
    have ha := (List.nodup_cons.mp hn).1
    have hp : p < l.length := by simpa using h
    have hm : l.getD p 0 ∈ l := by rw [getD_lt hp]; exact List.getElem_mem hp
    show a :: l.eraseIdx p = (a :: l).filter (fun j => decide (j ≠ l.getD p 0))
    rw [List.filter_cons_of_pos (by simp; exact fun e => ha (by rw [e]; exact (by simpa using hm))), erase_filter l p (List.nodup_cons.mp hn).2 hp]
/-- gone, of those below o -/
def gonO (J : Nat → Int) (wait t : Int) (F : Mem) (o j : Nat) : Bool := gonD J wait t F j && decide (j < o)
def goO (J : Nat → Int) (wait t : Int) (o : Nat) (x : SG) : SG := (x.1.filter (fun j => !gonO J wait t x.2.2.2 o j), x.2.1, x.2.2.1, fun c k => if k ∈ x.1 ∧ gonO J wait t x.2.2.2 o k = true then (if c = 0 then 1 else if c = 3 then t else x.2.2.2 c k) else x.2.2.2 c k)
theorem goO_none {J : Nat → Int} {wait t : Int} {o : Nat} {x : SG} (h : ∀ j, j ∈ x.1 → gonO J wait t x.2.2.2 o j = false) : goO J wait t o x = x := by
  obtain ⟨row, srv, nx, F⟩ := x
  have e1 : row.filter (fun j => !gonO J wait t F o j) = row := List.filter_eq_self.mpr fun j hj => by rw [h j hj]; rfl
  have e2 : (fun c k => if k ∈ row ∧ gonO J wait t F o k = true then (if c = 0 then 1 else if c = 3 then t else F c k) else F c k : Mem) = F := funext fun c => funext fun k => if_neg fun z => by
    have := h k z.1
    dsimp only at this
    rw [this] at z
    exact absurd z.2 (by decide)
  show (row.filter (fun j => !gonO J wait t F o j), srv, nx, (fun c k => if k ∈ row ∧ gonO J wait t F o k = true then (if c = 0 then 1 else if c = 3 then t else F c k) else F c k : Mem)) = (row, srv, nx, F)
  rw [e1, e2]
theorem goO_congr {J : Nat → Int} {wait t : Int} {o o' : Nat} {x : SG} (h : ∀ j, j ∈ x.1 → gonO J wait t x.2.2.2 o j = gonO J wait t x.2.2.2 o' j) : goO J wait t o x = goO J wait t o' x := by
  obtain ⟨row, srv, nx, F⟩ := x
  dsimp only at h
  have e1 : row.filter (fun j => !gonO J wait t F o j) = row.filter (fun j => !gonO J wait t F o' j) := List.filter_congr fun j hj => by rw [h j hj]
  have e2 : (fun c k => if k ∈ row ∧ gonO J wait t F o k = true then (if c = 0 then 1 else if c = 3 then t else F c k) else F c k : Mem) = (fun c k => if k ∈ row ∧ gonO J wait t F o' k = true then (if c = 0 then 1 else if c = 3 then t else F c k) else F c k : Mem) := funext fun c => funext fun k => by
    by_cases q : k ∈ row
    · rw [h k q]
    · rw [if_neg fun z => q z.1, if_neg fun z => q z.1]
  show (row.filter (fun j => !gonO J wait t F o j), srv, nx, (fun c k => if k ∈ row ∧ gonO J wait t F o k = true then (if c = 0 then 1 else if c = 3 then t else F c k) else F c k : Mem)) = (row.filter (fun j => !gonO J wait t F o' j), srv, nx, (fun c k => if k ∈ row ∧ gonO J wait t F o' k = true then (if c = 0 then 1 else if c = 3 then t else F c k) else F c k : Mem))
  rw [e1, e2]
theorem goO_all {J : Nat → Int} {wait t : Int} {o : Nat} {x : SG} (h : ∀ j, j ∈ x.1 → gonD J wait t x.2.2.2 j = true → j < o) : goO J wait t o x = sGo J wait t x := by
  obtain ⟨row, srv, nx, F⟩ := x
  dsimp only at h
  have g : ∀ j, j ∈ row → gonO J wait t F o j = gonD J wait t F j := fun j hj => by
    unfold gonO
    cases hg : gonD J wait t F j with
    | false => rfl
    | true => rw [decide_eq_true (h j hj hg)]; rfl
  have e1 : row.filter (fun j => !gonO J wait t F o j) = row.filter (fun j => !gonD J wait t F j) := List.filter_congr fun j hj => by rw [g j hj]
  have e2 : (fun c k => if k ∈ row ∧ gonO J wait t F o k = true then (if c = 0 then 1 else if c = 3 then t else F c k) else F c k : Mem) = goF J wait t row F := funext fun c => funext fun k => by
    unfold goF
    by_cases q : k ∈ row
    · rw [g k q]
    · rw [if_neg fun z => q z.1, if_neg fun z => q z.1]
  show (row.filter (fun j => !gonO J wait t F o j), srv, nx, (fun c k => if k ∈ row ∧ gonO J wait t F o k = true then (if c = 0 then 1 else if c = 3 then t else F c k) else F c k : Mem)) = (row.filter (fun j => !gonD J wait t F j), srv, nx, goF J wait t row F)
  rw [e1, e2]
theorem letGo_loop {d : Nat} {Q : Rs → Mem → Prop} {M0 : Mem} {r n : Nat} {J : Nat → Int} {many by_ space wait t : Int} {x : SG} (hr : IsPlay r) (hV : VJ n J) (hJ : M0 94 = J) (hp : PVi n many t x) (ht : 0 ≤ t ∧ t ≤ 1500) (hw : 1 ≤ wait ∧ wait ≤ 999)
    (hQ : ∀ M' (o : Nat), Fr (pcs r) M0 M' → CPl M' r J many by_ space wait (sGo J wait t x) → M' r 16 = o → o ≤ x.2.2.1 → (∀ j, j ∈ (sGo J wait t x).1 → x.2.2.2 2 j = -1 → o ≤ j) → (∀ s, s ≠ 12 → s ≠ 16 → M' r s = M0 r s) → M' (r + 1) = M0 (r + 1) → Q (.inl 0) M') :
    ∀ (k o : Nat) (M : Mem), o + k = x.2.2.1 → Fr (pcs r) M0 M → CPl M r J many by_ space wait (goO J wait t o x) → M r 16 = o → (∀ j, j ∈ (goO J wait t o x).1 → x.2.2.2 2 j = -1 → o ≤ j) → (∀ s, s ≠ 12 → s ≠ 16 → M r s = M0 r s) → M (r + 1) = M0 (r + 1) → L_P_letGo_0 (d + 2) Q M r t
  | k, o, M, hk, hf, hc, ho, hol, hs, h1 => by
    obtain ⟨row, srv, nx, F⟩ := x
    obtain ⟨p1, p2, p3, p4, p5, p6, p7, p8, p9⟩ := hp
    dsimp only at *
    have h24 := hV.1
    have e94 : M 94 = J := by rw [hf 94 (by have := hr; rcases hr with rfl | rfl <;> decide)]; exact hJ
    have hc0 := hc
    obtain ⟨c0, c1, c2, c3, c4, c5, c6, c7, c8, c9⟩ := hc
    have c6' : M r 15 = (nx : Int) := c6
    have fin : (o = nx ∨ t < J (4 * o) + wait) → Q (.inl 0) M := by
      intro h
      have hall : ∀ j, j ∈ row → gonD J wait t F j = true → j < o := by
        intro j hj hg
        have hjx := p3 j (List.mem_append_left _ hj)
        rcases h with e | e
        · omega
        · unfold gonD at hg
          have hg' := of_decide_eq_true hg
          rcases Nat.lt_or_ge j o with q | q
          · exact q
          · have := hV.mono (j - o) o (by omega)
            rw [show o + (j - o) = j by omega] at this
            omega
      have e := goO_all (J := J) (wait := wait) (t := t) (o := o) (x := (row, srv, nx, F)) hall
      rw [e] at hc0 hol
      exact hQ M o hf hc0 ho (by omega) hol hs h1
    refine b_P_letGo_0 hr ?_
    rw [ho, c6']
    refine ⟨⟨by omega, by omega⟩, ⟨by omega, by omega⟩, fun z => fin (Or.inl (by omega)), fun z => ?_⟩
    refine (s_Jpart (d := d + 1) (k := o) (p := 0) (by omega) (by decide)).cal fun v1 M1 hM1 => ?_
    obtain ⟨rfl, rfl⟩ := hM1
    have hox : o < nx := by omega
    have hjo := (hV.2.1 o (by omega)).1
    rw [e94, c3, ho, Int.toNat_natCast, Nat.add_zero]
    have hst := c9 o hox
    have h5 := p5 o hox
    -- the job o among those of the row
    have go_not : (¬ o ∈ row ∨ ¬ gonD J wait t F o = true) → goO J wait t (o + 1) (row, srv, nx, F) = goO J wait t o (row, srv, nx, F) := fun h => goO_congr fun j hj => by
      show gonO J wait t F (o + 1) j = gonO J wait t F o j
      unfold gonO
      by_cases e : j = o
      · subst e
        rcases h with h | h
        · exact absurd hj h
        · cases hg : gonD J wait t F j with
          | false => rfl
          | true => exact absurd hg h
      · have : decide (j < o + 1) = decide (j < o) := decide_eq_decide.mpr (by omega)
        rw [this]
    have phi0 : (goO J wait t o (row, srv, nx, F)).2.2.2 0 o = F 0 o := by
      show (if o ∈ row ∧ gonO J wait t F o o = true then _ else F 0 o) = F 0 o
      rw [if_neg]
      intro z
      unfold gonO at z
      have : decide (o < o) = false := decide_eq_false (Nat.lt_irrefl o)
      rw [this, Bool.and_false] at z
      exact absurd z.2 (by decide)
    have phi2 : (goO J wait t o (row, srv, nx, F)).2.2.2 2 o = F 2 o := by
      show (if o ∈ row ∧ gonO J wait t F o o = true then _ else F 2 o) = F 2 o
      rw [if_neg]
      intro z
      unfold gonO at z
      have : decide (o < o) = false := decide_eq_false (Nat.lt_irrefl o)
      rw [this, Bool.and_false] at z
      exact absurd z.2 (by decide)
    rw [hst.1, hst.2.1, phi0, phi2]
    have next : ¬ t < J (4 * o) + wait → (¬ o ∈ row ∨ ¬ gonD J wait t F o = true) → L_P_letGo_0 (d + 2) Q (upd2 M1 r 16 ((o : Int) + 1)) r t := fun z2 h => by
      cases k with
      | zero => omega
      | succ k =>
        have e := go_not h
        have hf2 : Fr (pcs r) M1 (upd2 M1 r 16 ((o : Int) + 1)) := Fr.rfl'.u2 (by simp)
        refine letGo_loop (x := (row, srv, nx, F)) hr hV hJ ⟨p1, p2, p3, p4, p5, p6, p7, p8, p9⟩ ht hw hQ k (o + 1) _ (by show o + 1 + k = nx; omega) (hf.tr hf2) ?_ (by rw [u2_same]; omega) (fun j hj hj2 => ?_) (fun s q1 q2 => by rw [u2_ne q2]; exact hs s q1 q2) (by rw [u2_off (by omega)]; exact h1)
        · rw [e]
          refine ⟨?_, ?_, ?_, ?_, ?_, ?_, ?_, ?_, ?_, fun k hk => ?_⟩
          · rw [u2_ne (by decide)]; exact c0
          · rw [u2_ne (by decide)]; exact c1
          · rw [u2_ne (by decide)]; exact c2
          · rw [u2_ne (by decide)]; exact c3
          · rw [u2_ne (by decide)]; exact c4
          · rw [u2_ne (by decide)]; exact c5
          · rw [u2_ne (by decide)]; exact c6
          · rw [u2_off (by omega)]; exact c7
          · rw [u2_off (by omega)]; exact c8
          · rw [u2_off (by omega), u2_off (by omega), u2_off (by omega), u2_off (by omega), u2_off (by omega)]; exact c9 k hk
        · rw [e] at hj
          have h1 := hol j hj hj2
          have hjr : j ∈ row := (List.mem_filter.mp hj).1
          rcases Nat.lt_or_ge o j with q | q
          · exact q
          · have ej : j = o := by omega
            subst ej
            rcases h with h | h
            · exact absurd hjr h
            · refine absurd ?_ h
              unfold gonD
              exact decide_eq_true ⟨hj2, by omega⟩
    refine ⟨⟨by omega, by omega⟩, ⟨by omega, by omega⟩, fun z2 => fin (Or.inr z2), fun z2 => ⟨⟨by omega, by omega⟩, ⟨by omega, by omega⟩, fun z3 => ?_, fun z3 => ⟨⟨by omega, by omega⟩, fun z4 => ?_, fun z4 => ?_⟩⟩⟩
    · refine next z2 (Or.inl fun q => z3 (h5.1.mpr (List.mem_append_left _ q)))
    · refine next z2 (Or.inr fun q => z4 ?_)
      unfold gonD at q
      exact (of_decide_eq_true q).1
    · have F2 : F 2 o = -1 := Classical.not_not.mp z4
      have F0 : F 0 o = 3 := Classical.not_not.mp z3
      have hor : o ∈ row := by
        rcases List.mem_append.mp (h5.1.mp F0) with q | q
        · exact q
        · exact absurd F2 (p7 o q)
      have hgD : gonD J wait t F o = true := decide_eq_true ⟨F2, by omega⟩
      have ego : ∀ j, gonO J wait t F (o + 1) j = (gonO J wait t F o j || decide (j = o)) := fun j => by
        unfold gonO
        by_cases e : j = o
        · subst e
          rw [hgD, decide_eq_true (show j < j + 1 by omega), decide_eq_true (rfl : j = j)]
          simp
        · rw [decide_eq_false e, Bool.or_false]
          have : decide (j < o + 1) = decide (j < o) := decide_eq_decide.mpr (by omega)
          rw [this]
      have hoo : gonO J wait t F o o = false := by
        unfold gonO
        rw [decide_eq_false (Nat.lt_irrefl o), Bool.and_false]
      have hrow : (goO J wait t o (row, srv, nx, F)).1 = row.filter (fun j => !gonO J wait t F o j) := rfl
      have hphi : ∀ c k, (goO J wait t o (row, srv, nx, F)).2.2.2 c k = if k ∈ row ∧ gonO J wait t F o k = true then (if c = 0 then 1 else if c = 3 then t else F c k) else F c k := fun _ _ => rfl
      have hphi1 : ∀ c k, (goO J wait t (o + 1) (row, srv, nx, F)).2.2.2 c k = if k ∈ row ∧ gonO J wait t F (o + 1) k = true then (if c = 0 then 1 else if c = 3 then t else F c k) else F c k := fun _ _ => rfl
      have hrow1 : (goO J wait t (o + 1) (row, srv, nx, F)).1 = row.filter (fun j => !gonO J wait t F (o + 1) j) := rfl
      rw [hrow] at c4 c7 hol
      have hsub : (row.filter (fun j => !gonO J wait t F o j)).Sublist row := List.filter_sublist
      have hm : o ∈ row.filter (fun j => !gonO J wait t F o j) := List.mem_filter.mpr ⟨hor, by rw [hoo]; rfl⟩
      have hnd : (row.filter (fun j => !gonO J wait t F o j)).Nodup := hsub.nodup (List.nodup_append.mp p2).1
      have hle := hsub.length_le
      have h8 : ∀ i, i ∈ row.filter (fun j => !gonO J wait t F o j) → i < 24 := fun i hi => by
        have := p3 i (List.mem_append_left _ (List.mem_filter.mp hi).1)
        omega
      have hrow2 : ∀ p, p < (row.filter (fun j => !gonO J wait t F o j)).length → (row.filter (fun j => !gonO J wait t F o j)).getD p 0 = o → (row.filter (fun j => !gonO J wait t F o j)).eraseIdx p = (goO J wait t (o + 1) (row, srv, nx, F)).1 := fun p hp1 hp2 => by
        rw [erase_filter _ p hnd hp1, hp2, List.filter_filter, hrow1]
        refine List.filter_congr fun j hj => ?_
        rw [ego j]
        cases gonO J wait t F o j <;> by_cases e : j = o <;> simp [e]
      refine (s_placeInRow (d := d + 1) hr c4 (by omega) c7 h8 hm).cal fun v2 M2 hM2 => ?_
      obtain ⟨rfl, p, rfl, hp1, hp2⟩ := hM2
      refine (s_takeOut (d := d + 1) hr c4 (by omega) c7 hp1).cal fun v3 M3 hM3 => ?_
      obtain ⟨rfl, f3, g1, g2, g3⟩ := hM3
      have ho3 : M3 r 16 = o := by rw [g3 16 (by decide)]; exact ho
      rw [u2_off (show r ≠ r + 2 by omega), u2_off (show r ≠ r + 4 by omega), u2_off (show r ≠ r + 2 by omega), ho3, Int.toNat_natCast]
      rw [hrow2 p hp1 hp2] at g1 g2
      refine ⟨⟨by omega, by omega⟩, ⟨by omega, by omega⟩, ?_⟩
      cases k with
      | zero => omega
      | succ k =>
        have hf3 : Fr (pcs r) M2 (upd2 (upd2 (upd2 M3 (r + 2) o 1) (r + 4) o t) r 16 ((o : Int) + 1)) := (((f3.mono (by simp)).u2 (by simp)).u2 (by simp)).u2 (by simp)
        have R : ∀ q, q ≠ r → q ≠ r + 2 → q ≠ r + 4 → q ≠ r + 7 → (upd2 (upd2 (upd2 M3 (r + 2) o 1) (r + 4) o t) r 16 ((o : Int) + 1)) q = M2 q := fun q q1 q2 q3 q4 => by
          rw [u2_off q1, u2_off q3, u2_off q2]; exact f3 q (by simp; omega)
        have S : ∀ s, s ≠ 12 → s ≠ 16 → (upd2 (upd2 (upd2 M3 (r + 2) o 1) (r + 4) o t) r 16 ((o : Int) + 1)) r s = M2 r s := fun s q1 q2 => by
          rw [u2_ne q2, u2_off (by omega), u2_off (by omega)]; exact g3 s q1
        refine letGo_loop (x := (row, srv, nx, F)) hr hV hJ ⟨p1, p2, p3, p4, p5, p6, p7, p8, p9⟩ ht hw hQ k (o + 1) _ (by show o + 1 + k = nx; omega) (hf.tr hf3) ?_ (by rw [u2_same]; omega) (fun j hj hj2 => ?_) (fun s q1 q2 => by rw [S s q1 q2]; exact hs s q1 q2) (by rw [R _ (by omega) (by omega) (by omega) (by omega)]; exact h1)
        · refine ⟨?_, ?_, ?_, ?_, ?_, ?_, ?_, ?_, ?_, fun k hk => ?_⟩
          · rw [S 0 (by decide) (by decide)]; exact c0
          · rw [S 1 (by decide) (by decide)]; exact c1
          · rw [S 2 (by decide) (by decide)]; exact c2
          · rw [S 3 (by decide) (by decide)]; exact c3
          · rw [u2_ne (by decide), u2_off (by omega), u2_off (by omega)]; exact g2
          · rw [S 14 (by decide) (by decide)]; exact c5
          · rw [S 15 (by decide) (by decide)]; exact c6
          · rw [u2_off (by omega), u2_off (by omega), u2_off (by omega)]; exact g1
          · rw [R _ (by omega) (by omega) (by omega) (by omega)]; exact c8
          · obtain ⟨m1, m2, m3, m4, m5⟩ := c9 k hk
            rw [hphi] at m1 m2 m3 m4
            rw [hphi1, hphi1, hphi1, hphi1, R (r + 3) (by omega) (by omega) (by omega) (by omega), R (r + 5) (by omega) (by omega) (by omega) (by omega), R (r + 6) (by omega) (by omega) (by omega) (by omega), u2_off (show r + 2 ≠ r by omega), u2_off (show r + 2 ≠ r + 4 by omega), u2_row, u2_off (show r + 4 ≠ r by omega), u2_row, u2_off (show r + 4 ≠ r + 2 by omega), f3 (r + 2) (by simp), f3 (r + 4) (by simp), ego k]
            by_cases e : k = o
            · subst e
              rw [sr_same, sr_same, hoo]
              rw [hoo] at m2 m4
              simp only [Bool.false_or, decide_true, and_true, if_pos hor]
              simp only [Bool.false_eq_true, and_false, if_false] at m2 m4
              exact ⟨rfl, m2, rfl, m4, m5⟩
            · rw [sr_ne e, sr_ne e, decide_eq_false e, Bool.or_false]
              exact ⟨m1, m2, m3, m4, m5⟩
        · rw [hrow1] at hj
          obtain ⟨hj3, hj4⟩ := List.mem_filter.mp hj
          rw [ego j] at hj4
          have e : j ≠ o := fun e => by
            rw [decide_eq_true e, Bool.or_true] at hj4
            exact absurd hj4 (by decide)
          have h6 : gonO J wait t F o j = false := by
            rw [decide_eq_false e, Bool.or_false] at hj4
            cases hq : gonO J wait t F o j with
            | false => rfl
            | true => rw [hq] at hj4; exact absurd hj4 (by decide)
          have := hol j (List.mem_filter.mpr ⟨hj3, by rw [h6]; rfl⟩) hj2
          omega
theorem s_letGo {d : Nat} {M : Mem} {r n o : Nat} {J : Nat → Int} {many by_ space wait t : Int} {x : SG} (hr : IsPlay r) (hV : VJ n J) (hJ : M 94 = J) (hp : PVi n many t x) (ht : 0 ≤ t ∧ t ≤ 1500) (hw : 1 ≤ wait ∧ wait ≤ 999)
    (hc : CPl M r J many by_ space wait x) (ho : M r 16 = o) (hox : o ≤ x.2.2.1) (hol : ∀ j, j ∈ x.1 → x.2.2.2 2 j = -1 → o ≤ j) :
    Post (d + 3) cP_letGo [.inr (.inr (.inl r)), oJ, .inl t] M (fun _ M' => Fr (pcs r) M M' ∧ CPl M' r J many by_ space wait (sGo J wait t x) ∧ (∃ o : Nat, M' r 16 = o ∧ o ≤ x.2.2.1 ∧ ∀ j, j ∈ (sGo J wait t x).1 → x.2.2.2 2 j = -1 → o ≤ j) ∧ (∀ s, s ≠ 12 → s ≠ 16 → M' r s = M r s) ∧ M' (r + 1) = M (r + 1)) := by
  intro Q hQ
  have e : goO J wait t o x = x := goO_none fun j hj => by
    unfold gonO
    cases hg : gonD J wait t x.2.2.2 j with
    | false => rfl
    | true =>
      have := hol j hj (of_decide_eq_true hg).1
      rw [decide_eq_false (by omega)]; rfl
  exact e_P_letGo hr (letGo_loop (d := d) hr hV hJ hp ht hw (fun M' o f1 f2 f3 f4 f5 f6 f7 => hQ 0 M' ⟨f1, f2, ⟨o, f3, f4, f5⟩, f6, f7⟩) (x.2.2.1 - o) o M (by omega) Fr.rfl' (by rw [e]; exact hc) ho (by rw [e]; exact hol) (fun _ _ _ => rfl) rfl)
