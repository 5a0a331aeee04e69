/-! The reference plays: goesAndComes. -/
def goK (J : Nat → Int) (wait t : Int) (c : Nat) (x : SG) : SG := (x.1.take c ++ (x.1.drop c).filter (fun j => !gonD J wait t x.2.2.2 j), x.2.1, x.2.2.1, fun a k => if k ∈ x.1.drop c ∧ gonD J wait t x.2.2.2 k = true then (if a = 0 then 1 else if a = 3 then t else x.2.2.2 a k) else x.2.2.2 a k)
theorem goK_zero {J : Nat → Int} {wait t : Int} {x : SG} : goK J wait t 0 x = sGo J wait t x := rfl
theorem goK_len {J : Nat → Int} {wait t : Int} {x : SG} : goK J wait t x.1.length x = x := by
  obtain ⟨row, srv, nx, F⟩ := x
  have e2 : (fun a k => if k ∈ row.drop row.length ∧ gonD J wait t F k = true then (if a = 0 then 1 else if a = 3 then t else F a k) else F a k : Mem) = F := funext fun a => funext fun k => by
    rw [if_neg fun z => by
      have := z.1
      rw [List.drop_length] at this
      simp at this]
  show (row.take row.length ++ (row.drop row.length).filter (fun j => !gonD J wait t F j), srv, nx, (fun a k => if k ∈ row.drop row.length ∧ gonD J wait t F k = true then (if a = 0 then 1 else if a = 3 then t else F a k) else F a k : Mem)) = (row, srv, nx, F)
  rw [e2, List.take_length, List.drop_length]
  simp
theorem take_split {l : List Nat} {c : Nat} (h : c < l.length) : l.take (c + 1) = l.take c ++ [l.getD c 0] ∧ l.drop c = l.getD c 0 :: l.drop (c + 1) := by
  rw [getD_lt h]
  exact ⟨(List.take_append_getElem h).symm, List.drop_eq_getElem_cons h⟩
theorem goK_keep {J : Nat → Int} {wait t : Int} {c : Nat} {x : SG} (h : c < x.1.length) (hg : gonD J wait t x.2.2.2 (x.1.getD c 0) = false) : goK J wait t c x = goK J wait t (c + 1) x := by
  obtain ⟨row, srv, nx, F⟩ := x
  dsimp only at h hg
  obtain ⟨e1, e2⟩ := take_split h
  have r1 : row.take c ++ (row.drop c).filter (fun j => !gonD J wait t F j) = row.take (c + 1) ++ (row.drop (c + 1)).filter (fun j => !gonD J wait t F j) := by
    rw [e1, e2, List.filter_cons_of_pos (by rw [hg]; rfl), List.append_assoc]
    rfl
  have r2 : (fun a k => if k ∈ row.drop c ∧ gonD J wait t F k = true then (if a = 0 then 1 else if a = 3 then t else F a k) else F a k : Mem) = (fun a k => if k ∈ row.drop (c + 1) ∧ gonD J wait t F k = true then (if a = 0 then 1 else if a = 3 then t else F a k) else F a k : Mem) := funext fun a => funext fun k => by
    by_cases q : k ∈ row.drop (c + 1) ∧ gonD J wait t F k = true
    · rw [if_pos q, if_pos ⟨by rw [e2]; exact List.mem_cons_of_mem _ q.1, q.2⟩]
    · rw [if_neg q, if_neg fun z => by
        have hz := z.1
        rw [e2] at hz
        rcases List.mem_cons.mp hz with y | y
        · have := z.2
          rw [y, hg] at this
          exact absurd this (by decide)
        · exact q ⟨y, z.2⟩]
  show (row.take c ++ (row.drop c).filter (fun j => !gonD J wait t F j), srv, nx, (fun a k => if k ∈ row.drop c ∧ gonD J wait t F k = true then (if a = 0 then 1 else if a = 3 then t else F a k) else F a k : Mem)) = (row.take (c + 1) ++ (row.drop (c + 1)).filter (fun j => !gonD J wait t F j), srv, nx, (fun a k => if k ∈ row.drop (c + 1) ∧ gonD J wait t F k = true then (if a = 0 then 1 else if a = 3 then t else F a k) else F a k : Mem))
  rw [r1, r2]
theorem gac_5 {d : Nat} {Q : Rs → Mem → Prop} {M0 : Mem} {n : Nat} {J : Nat → Int} {many cap space wait t : Int} {x : SG} {o6 : Option PV} (hV : VJ n J) (hJ : M0 151 = J) (hp : PVi n many t x) (ht : 0 ≤ t ∧ t ≤ 1500) (hw : 1 ≤ wait ∧ wait ≤ 5000)
    (hQ : ∀ M' o4 o6, FC rcs [40] M0 M' → M' 172 = M0 172 → RPl M' n J (sGo J wait t x) → L_M_goesAndComes_45 (d + 1) Q M' t cap space o4 0 o6) :
    ∀ (c : Nat) (M : Mem) (o6 : Option PV), c ≤ x.1.length → FC rcs [40] M0 M → M 172 = M0 172 → RPl M n J (goK J wait t c x) → L_M_goesAndComes_5 (d + 1) Q M t cap space wait ((c : Int) - 1) o6
  | 0, M, o6, hc, hf, h172, hR => by
    exact b_M_goesAndComes_5 ⟨⟨by omega, by omega⟩, fun _ => hQ M _ _ hf h172 (by rw [goK_zero] at hR; exact hR), fun z => absurd (by omega) z⟩
  | c + 1, M, o6, hc, hf, h172, hR => by
    obtain ⟨row, srv, nx, F⟩ := x
    have hR0 := hR
    obtain ⟨r1, r2, r3, r4⟩ := hR
    obtain ⟨p1, p2, p3, p4, p5, p6, p7, p8, p9⟩ := hp
    dsimp only at *
    have h24 := hV.1
    have e151 : M 151 = J := by rw [hf.1 151 (by decide) (by decide)]; exact hJ
    have hcl : c < row.length := by omega
    obtain ⟨t1, t2⟩ := take_split hcl
    have hmem : row.getD c 0 ∈ row := by rw [getD_lt hcl]; exact List.getElem_mem _
    have hjx := p3 _ (List.mem_append_left _ hmem)
    have hrow : (goK J wait t (c + 1) (row, srv, nx, F)).1 = row.take (c + 1) ++ (row.drop (c + 1)).filter (fun j => !gonD J wait t F j) := rfl
    have htl : (row.take c).length = c := by rw [List.length_take]; omega
    have hnr := (List.nodup_append.mp p2).1
    have hdec : row.take c ++ row.getD c 0 :: row.drop (c + 1) = row := by rw [← t2, List.take_append_drop]
    have hper : (row.take c ++ row.getD c 0 :: row.drop (c + 1)).Perm (row.getD c 0 :: (row.take c ++ row.drop (c + 1))) := List.perm_middle
    have hnj : ¬ row.getD c 0 ∈ row.take c ++ row.drop (c + 1) := by
      rw [hdec] at hper
      exact (List.nodup_cons.mp (hper.nodup_iff.mp hnr)).1
    have hget : (goK J wait t (c + 1) (row, srv, nx, F)).1.getD c 0 = row.getD c 0 := by
      rw [hrow, t1, List.append_assoc, List.getD_eq_getElem?_getD, List.getElem?_append_right (by omega), htl, Nat.sub_self]
      rfl
    have hlen : c < (goK J wait t (c + 1) (row, srv, nx, F)).1.length := by
      rw [hrow, List.length_append, List.length_take]; omega
    have hw171 := r3.at_ hlen
    rw [hget] at hw171
    have hjsrv : ¬ row.getD c 0 ∈ srv := fun z => (List.nodup_append.mp p2).2.2 _ hmem _ z rfl
    have hFj : ∀ a, (goK J wait t (c + 1) (row, srv, nx, F)).2.2.2 a (row.getD c 0) = F a (row.getD c 0) := fun a => by
      show (if row.getD c 0 ∈ row.drop (c + 1) ∧ _ then _ else _) = _
      rw [if_neg fun z => hnj (List.mem_append_right _ z.1)]
    have h169 := (r4 (row.getD c 0) (by omega)).2.2.1
    have hx2 : (goK J wait t (c + 1) (row, srv, nx, F)).2.2.1 = nx := rfl
    rw [hx2, if_pos hjx, hFj] at h169
    have hb5 := p5 _ hjx
    obtain ⟨j1, j2, j3, j4⟩ := hV.2.1 (row.getD c 0) (by omega)
    rw [show ((c + 1 : Nat) : Int) - 1 = (c : Int) by omega]
    have keep : gonD J wait t F (row.getD c 0) = false → ∀ o6, L_M_goesAndComes_5 (d + 1) Q M t cap space wait ((c : Int) + -1) o6 := fun hg o6 => by
      have e := goK_keep (J := J) (wait := wait) (t := t) (c := c) (x := (row, srv, nx, F)) hcl hg
      rw [show (c : Int) + -1 = (c : Int) - 1 by omega]
      exact gac_5 (x := (row, srv, nx, F)) (o6 := o6) hV hJ ⟨p1, p2, p3, p4, p5, p6, p7, p8, p9⟩ ht hw hQ c M o6 (by show c ≤ row.length; omega) hf h172 (by rw [e]; exact hR0)
    refine b_M_goesAndComes_5 ?_
    rw [Int.toNat_natCast, hw171, Int.toNat_natCast, h169, e151, show (4 * ((row.getD c 0 : Nat) : Int)).toNat = 4 * row.getD c 0 by omega]
    refine ⟨⟨by omega, by omega⟩, fun z => absurd z (by omega), fun _ => ⟨⟨by omega, by omega⟩, ⟨by omega, by omega⟩, ⟨by omega, by omega⟩, fun z => keep (decide_eq_false fun y => z y.1) _, fun z => ⟨⟨by omega, by omega⟩, ⟨by omega, by omega⟩, ⟨by omega, by omega⟩, fun z2 => keep (decide_eq_false fun y => by omega) _, fun z2 => ?_⟩⟩⟩
    have hg : gonD J wait t F (row.getD c 0) = true := decide_eq_true ⟨Classical.not_not.mp z, by omega⟩
    have herase : (goK J wait t (c + 1) (row, srv, nx, F)).1.eraseIdx c = (goK J wait t c (row, srv, nx, F)).1 := by
      show _ = row.take c ++ (row.drop c).filter (fun j => !gonD J wait t F j)
      rw [hrow, t1, List.append_assoc, List.eraseIdx_append_of_length_le (by omega), htl, Nat.sub_self, t2, List.filter_cons_of_neg (by rw [hg]; simp)]
      rfl
    have f0 : FC rcs [40] M (upd2 (upd2 M 167 (row.getD c 0) 1) 170 (row.getD c 0) t) := (FC.rfl'.u2 (by simp) (by decide)).u2 (by simp) (by decide)
    have hle : (goK J wait t (c + 1) (row, srv, nx, F)).1.length ≤ 24 := by
      rw [hrow, List.length_append, List.length_take]
      have : ((row.drop (c + 1)).filter (fun j => !gonD J wait t F j)).length ≤ (row.drop (c + 1)).length := List.length_filter_le _ _
      rw [List.length_drop] at this
      omega
    refine (s_leavesRow (d := d) (p := c) (row := (goK J wait t (c + 1) (row, srv, nx, F)).1) (by rw [u2_off (by decide), u2_off (by decide)]; exact r1) hle (by rw [u2_off (by decide), u2_off (by decide)]; exact r3) hlen).cal fun v1 M1 hM1 => ?_
    obtain ⟨f1, g1, g2⟩ := hM1
    rw [herase] at g1 g2
    rw [show (c : Int) + -1 = (c : Int) - 1 by omega]
    refine gac_5 (x := (row, srv, nx, F)) (o6 := none) hV hJ ⟨p1, p2, p3, p4, p5, p6, p7, p8, p9⟩ ht hw hQ c M1 _ (by show c ≤ row.length; omega) ((hf.tr f0).tr (f1.mono (by simp) (by simp))) ?_ ⟨g2, ?_, g1, fun k hk => ?_⟩
    · rw [f1.1 172 (by decide) (by decide), u2_off (by decide), u2_off (by decide)]; exact h172
    · rw [f1.2 41 (by simp), u2_off (by decide), u2_off (by decide)]; exact r2
    · obtain ⟨m1, m2, m3, m4⟩ := r4 k hk
      rw [f1.1 167 (by decide) (by decide), f1.1 168 (by decide) (by decide), f1.1 169 (by decide) (by decide), f1.1 170 (by decide) (by decide), u2_off (show (167 : Nat) ≠ 170 by decide), u2_off (show (168 : Nat) ≠ 170 by decide), u2_off (show (168 : Nat) ≠ 167 by decide), u2_off (show (169 : Nat) ≠ 170 by decide), u2_off (show (169 : Nat) ≠ 167 by decide), u2_row, u2_row, u2_off (show (170 : Nat) ≠ 167 by decide)]
      have hFc : ∀ a k, (goK J wait t c (row, srv, nx, F)).2.2.2 a k = if k ∈ row.drop c ∧ gonD J wait t F k = true then (if a = 0 then 1 else if a = 3 then t else F a k) else F a k := fun _ _ => rfl
      have hFc1 : ∀ a k, (goK J wait t (c + 1) (row, srv, nx, F)).2.2.2 a k = if k ∈ row.drop (c + 1) ∧ gonD J wait t F k = true then (if a = 0 then 1 else if a = 3 then t else F a k) else F a k := fun _ _ => rfl
      have hxc : (goK J wait t c (row, srv, nx, F)).2.2.1 = nx := rfl
      have hsc : (goK J wait t c (row, srv, nx, F)).2.1 = srv := rfl
      have hsc1 : (goK J wait t (c + 1) (row, srv, nx, F)).2.1 = srv := rfl
      have hrc : (goK J wait t c (row, srv, nx, F)).1 = row.take c ++ (row.drop (c + 1)).filter (fun j => !gonD J wait t F j) := by
        show row.take c ++ (row.drop c).filter (fun j => !gonD J wait t F j) = _
        rw [t2, List.filter_cons_of_neg (by rw [hg]; simp)]
      unfold stR at m1 ⊢
      rw [hxc] at *
      rw [hx2] at m1 m2 m3 m4
      rw [hsc, hrc]
      rw [hsc1, hrow, t1] at m1
      generalize row.getD c 0 = v at *
      by_cases e : k = v
      · subst e
        have hkin : k ∈ row.drop c := by rw [t2]; exact List.mem_cons_self
        have hnot : ¬ k ∈ row.take c ++ (row.drop (c + 1)).filter (fun j => !gonD J wait t F j) := fun y => by
          rcases List.mem_append.mp y with w | w
          · exact hnj (List.mem_append_left _ w)
          · exact hnj (List.mem_append_right _ (List.mem_filter.mp w).1)
        have hc0 : k ∈ row.drop c ∧ gonD J wait t F k = true := ⟨hkin, hg⟩
        have hc1 : ¬ (k ∈ row.drop (c + 1) ∧ gonD J wait t F k = true) := fun y => hnj (List.mem_append_right _ y.1)
        rw [if_pos hjx, hFc1, if_neg hc1] at m2 m3
        rw [sr_same, sr_same, hFc, hFc, hFc, hFc]
        refine ⟨?_, ?_, ?_, fun _ _ => ?_⟩
        · rw [if_pos hjx, if_neg hjsrv, if_neg hnot, if_pos hc0]; rfl
        · rw [if_pos hjx, if_pos hc0]; exact m2
        · rw [if_pos hjx, if_pos hc0]; exact m3
        · rw [if_pos hc0]; rfl
      · have hmm : (k ∈ row.take c ++ [v] ++ (row.drop (c + 1)).filter (fun j => !gonD J wait t F j)) ↔ k ∈ row.take c ++ (row.drop (c + 1)).filter (fun j => !gonD J wait t F j) := by
          rw [List.mem_append, List.mem_append, List.mem_append, List.mem_singleton]
          constructor
          · rintro ((y | y) | y)
            · exact Or.inl y
            · exact absurd y e
            · exact Or.inr y
          · rintro (y | y)
            · exact Or.inl (Or.inl y)
            · exact Or.inr y
        have hdd : k ∈ row.drop c ↔ k ∈ row.drop (c + 1) := by
          rw [t2, List.mem_cons]
          exact ⟨fun y => y.resolve_left e, Or.inr⟩
        have hFk : ∀ a, (goK J wait t c (row, srv, nx, F)).2.2.2 a k = (goK J wait t (c + 1) (row, srv, nx, F)).2.2.2 a k := fun a => by
          rw [hFc, hFc1]
          by_cases y : k ∈ row.drop (c + 1)
          · by_cases y2 : gonD J wait t F k = true
            · rw [if_pos (show k ∈ row.drop c ∧ gonD J wait t F k = true from ⟨hdd.mpr y, y2⟩), if_pos (show k ∈ row.drop (c + 1) ∧ gonD J wait t F k = true from ⟨y, y2⟩)]
            · rw [if_neg fun w => y2 w.2, if_neg fun w => y2 w.2]
          · rw [if_neg fun w => y (hdd.mp w.1), if_neg fun w => y w.1]
        rw [sr_ne e, sr_ne e, hFk, hFk, hFk, hFk]
        by_cases y : k ∈ row.take c ++ (row.drop (c + 1)).filter (fun j => !gonD J wait t F j)
        · rw [if_pos (hmm.mpr y)] at m1
          rw [if_pos y]
          exact ⟨m1, m2, m3, m4⟩
        · rw [if_neg fun w => y (hmm.mp w)] at m1
          rw [if_neg y]
          exact ⟨m1, m2, m3, m4⟩
theorem skip_45 {d : Nat} {Q : Rs → Mem → Prop} {M : Mem} {n : Nat} {J : Nat → Int} {cap space t : Int} {o6 : Option PV} (hV : VJ n J) (hn : M 175 6 = n) (hJ : M 151 = J) (ht : 0 ≤ t ∧ t ≤ 1500) {m : Nat} (hm : m ≤ n)
    (hQ : ∀ o4, L_M_goesAndComes_45 (d + 1) Q M t cap space o4 (m : Int) o6) : ∀ (k i : Nat) (o4 : Option PV), i + k = m → (∀ a, i ≤ a → a < m → J (4 * a) ≠ t) → L_M_goesAndComes_45 (d + 1) Q M t cap space o4 (i : Int) o6
  | 0, i, o4, hi, _ => by
    have e : i = m := by omega
    subst e
    exact hQ o4
  | k + 1, i, o4, hi, hne => by
    have h24 := hV.1
    obtain ⟨j1, _⟩ := hV.2.1 i (by omega)
    refine b_M_goesAndComes_45 ?_
    rw [hn, hJ, show (4 * (i : Int)).toNat = 4 * i by omega]
    refine ⟨⟨by omega, by omega⟩, ⟨by omega, by omega⟩, fun z => absurd z (by omega), fun _ => ⟨⟨by omega, by omega⟩, ⟨by omega, by omega⟩, ⟨by omega, by omega⟩, fun z => absurd z (hne i (Nat.le_refl i) (by omega)), fun _ => ?_⟩⟩
    exact skip_45 hV hn hJ ht hm hQ k (i + 1) _ (by omega) fun a h1 h2 => hne a (by omega) h2
theorem arr_45 {d : Nat} {Q : Rs → Mem → Prop} {M0 : Mem} {n : Nat} {J : Nat → Int} {many cap space t : Int} (hV : VJ n J) (hn : M0 175 6 = n) (hJ : M0 151 = J) (ht : 0 ≤ t ∧ t ≤ 1500) (hcap : 0 ≤ cap ∧ cap ≤ 4) (hsp : 0 ≤ space ∧ space ≤ 24):
    ∀ (f : Nat) (x : SG) (M : Mem) (o4 o6 : Option PV), PVi n many t x → n ≤ x.2.2.1 + f → (∀ a, x.2.2.1 ≤ a → a < n → t ≤ J (4 * a)) → FC rcs [40] M0 M → M 172 = M0 172 → RPl M n J x →
    (∀ M', FC rcs [40] M0 M' → M' 172 = M0 172 → RPl M' n J (sIn n J (cap + space) t f x) → Q (.inl 0) M') → L_M_goesAndComes_45 (d + 1) Q M t cap space o4 (x.2.2.1 : Int) o6
  | f, x, M, o4, o6, hp, hfu, hge, hf, h172, hR, hQ => by
    have h24 := hV.1
    have hp1 := hp.1
    have en : M 175 6 = n := by rw [hf.2 6 (by simp)]; exact hn
    have eJ : M 151 = J := by rw [hf.1 151 (by decide) (by decide)]; exact hJ
    have stop : ¬ (x.2.2.1 < n ∧ J (4 * x.2.2.1) ≤ t) → Q (.inl 0) M := fun z => by
      refine hQ M hf h172 ?_
      cases f with
      | zero => exact hR
      | succ f => unfold sIn; rw [if_neg z]; exact hR
    have fin : ∀ o4, ¬ (x.2.2.1 < n ∧ J (4 * x.2.2.1) ≤ t) → L_M_goesAndComes_45 (d + 1) Q M t cap space o4 (n : Int) o6 := fun o4 z => by
      refine b_M_goesAndComes_45 ?_
      rw [en]
      exact ⟨⟨by omega, by omega⟩, ⟨by omega, by omega⟩, fun _ => stop z, fun y => absurd (Int.le_refl _) y⟩
    by_cases hx : x.2.2.1 < n ∧ J (4 * x.2.2.1) ≤ t
    · obtain ⟨hxn, hxt⟩ := hx
      have hxt' := hge x.2.2.1 (Nat.le_refl _) hxn
      obtain ⟨j1, j2, j3, j4⟩ := hV.2.1 x.2.2.1 hxn
      cases f with
      | zero => omega
      | succ f =>
        have estep : sIn n J (cap + space) t (f + 1) x = sIn n J (cap + space) t f (sIn1 J (cap + space) t x) := by
          show (if x.2.2.1 < n ∧ J (4 * x.2.2.1) ≤ t then _ else _) = _
          rw [if_pos ⟨hxn, hxt⟩]
        rw [estep] at hQ
        have hp' := sIn1_pvi (cap := cap + space) ht.1 hV hp hxn
        obtain ⟨row, srv, nx, F⟩ := x
        obtain ⟨r1, r2, r3, r4⟩ := hR
        obtain ⟨p1, p2, p3, p4, p5, p6, p7, p8, p9⟩ := hp
        dsimp only at *
        refine b_M_goesAndComes_45 ?_
        rw [en, eJ, show (4 * (nx : Int)).toNat = 4 * nx by omega, Int.toNat_natCast]
        refine ⟨⟨by omega, by omega⟩, ⟨by omega, by omega⟩, fun z => absurd z (by omega), fun _ => ⟨⟨by omega, by omega⟩, ⟨by omega, by omega⟩, ⟨by omega, by omega⟩, fun _ => ?_, fun z => absurd (by omega) z⟩⟩
        refine (s_there (d := d) (many := many) (t := t) en h24 ⟨p1, p2, p3, p4, p5, p6, p7, p8, p9⟩ (show RPl M n J (row, srv, nx, F) from ⟨r1, r2, r3, r4⟩)).cal fun v1 M1 hM1 => ?_
        obtain ⟨rfl, rfl⟩ := hM1
        have hnum : sNum (row, srv, nx, F) = (row.length : Int) + srv.length := rfl
        rw [hnum]
        have hge' : ∀ a, nx + 1 ≤ a → a < n → t ≤ J (4 * a) := fun a h1 h2 => hge a (by omega) h2
        have hnot : ∀ j, j ∈ row ++ srv → j ≠ nx := fun j hj => by have := p3 j hj; omega
        have keepF : ∀ (v : Int) (c k : Nat), k ≠ nx → upd2 (inF J t nx F) 0 nx v c k = F c k := fun v c k hk => by
          unfold inF
          rw [u2', if_neg fun z => hk z.2, u2', if_neg fun z => hk z.2, u2', if_neg fun z => hk z.2, u2', if_neg fun z => hk z.2]
        have newF : ∀ (v : Int), upd2 (inF J t nx F) 0 nx v 0 nx = v ∧ upd2 (inF J t nx F) 0 nx v 1 nx = J (4 * nx + 1) ∧ upd2 (inF J t nx F) 0 nx v 2 nx = -1 ∧ upd2 (inF J t nx F) 0 nx v 3 nx = t := fun v => by
          unfold inF
          refine ⟨u2_same, ?_, ?_, ?_⟩
          · rw [u2_off (by decide), u2_same]
          · rw [u2_off (by decide), u2_off (by decide), u2_off (by decide), u2_same]
          · rw [u2_off (by decide), u2_off (by decide), u2_same]
        obtain ⟨m1, m2, m3, m4⟩ := r4 nx hxn
        rw [if_neg (Nat.lt_irrefl nx)] at m2 m3
        have K : ∀ (v : Int) (row' : List Nat) (M' : Mem) (st : Int), (v = 3 ∧ row' = row ++ [nx] ∧ st = 4 ∨ v = 2 ∧ row' = row ∧ st = 2) → M' 167 = sr (M1 167) nx st → M' 168 = M1 168 → M' 169 = M1 169 → (v = 2 → M' 170 = sr (M1 170) nx t) → (v = 3 → M' 170 = M1 170) →
            ∀ k, k < n → M' 167 k = stR (row', srv, nx + 1, upd2 (inF J t nx F) 0 nx v) k ∧ M' 168 k = (if k < nx + 1 then upd2 (inF J t nx F) 0 nx v 1 k else J (4 * k + 1)) ∧ M' 169 k = (if k < nx + 1 then upd2 (inF J t nx F) 0 nx v 2 k else -1) ∧ (k < nx + 1 → upd2 (inF J t nx F) 0 nx v 0 k ≠ 3 → M' 170 k = upd2 (inF J t nx F) 0 nx v 3 k) := by
          intro v row' M' st hv k7 k8 k9 k70 k73 k hk
          rw [k7, k8, k9]
          unfold stR
          dsimp only
          by_cases e : k = nx
          · subst e
            obtain ⟨w0, w1, w2, w3⟩ := newF v
            have hs : ¬ k ∈ srv := fun z => hnot k (List.mem_append_right _ z) rfl
            have hr : ¬ k ∈ row := fun z => hnot k (List.mem_append_left _ z) rfl
            rw [sr_same, w0, w1, w2, w3]
            refine ⟨?_, ?_, ?_, fun _ hv3 => ?_⟩
            · rw [if_pos (show k < k + 1 by omega), if_neg hs]
              rcases hv with ⟨rfl, rfl, rfl⟩ | ⟨rfl, rfl, rfl⟩
              · rw [if_pos (List.mem_append_right _ (List.mem_singleton.mpr rfl))]
              · rw [if_neg hr]
            · rw [if_pos (show k < k + 1 by omega)]; exact m2
            · rw [if_pos (show k < k + 1 by omega)]; exact m3
            · rcases hv with ⟨rfl, rfl, rfl⟩ | ⟨rfl, rfl, rfl⟩
              · exact absurd rfl hv3
              · rw [k70 rfl, sr_same]
          · obtain ⟨q1, q2, q3, q4⟩ := r4 k hk
            unfold stR at q1
            dsimp only at q1
            have hlt : (k < nx + 1) = (k < nx) := propext ⟨fun z => by omega, fun z => by omega⟩
            have hrm : (k ∈ row') = (k ∈ row) := by
              rcases hv with ⟨_, rfl, _⟩ | ⟨_, rfl, _⟩
              · exact propext ⟨fun z => by
                  rcases List.mem_append.mp z with y | y
                  · exact y
                  · exact absurd (List.mem_singleton.mp y) e, fun z => List.mem_append_left _ z⟩
              · rfl
            rw [sr_ne e, keepF _ _ _ e, keepF _ _ _ e, keepF _ _ _ e, keepF _ _ _ e]
            refine ⟨?_, ?_, ?_, fun y y2 => ?_⟩
            · simp only [hlt, hrm]; exact q1
            · simp only [hlt]; exact q2
            · simp only [hlt]; exact q3
            · have := q4 (by omega) y2
              rcases hv with ⟨rfl, _, _⟩ | ⟨rfl, _, _⟩
              · rw [k73 rfl]; exact this
              · rw [k70 rfl, sr_ne e]; exact this
        refine ⟨⟨by omega, by omega⟩, ⟨by omega, by omega⟩, fun z => ⟨⟨by omega, by omega⟩, ?_⟩, fun z => ?_⟩
        · have ex : sIn1 J (cap + space) t (row, srv, nx, F) = (row, srv, nx + 1, upd2 (inF J t nx F) 0 nx 2) := by
            unfold sIn1
            rw [if_neg (show ¬ (row.length : Int) + srv.length < cap + space by omega)]
          rw [ex] at hQ hp'
          have hfA : FC rcs [40] M0 (upd2 (upd2 M1 167 nx 2) 170 nx t) := (hf.u2 (by simp) (by decide)).u2 (by simp) (by decide)
          have := arr_45 (d := d) (many := many) hV hn hJ ht hcap hsp f (row, srv, nx + 1, upd2 (inF J t nx F) 0 nx 2) (upd2 (upd2 M1 167 nx 2) 170 nx t) (clr o4) o6 hp' (by show n ≤ nx + 1 + f; omega) hge' hfA (by rw [u2_off (by decide), u2_off (by decide)]; exact h172) ⟨?_, ?_, ?_, ?_⟩ hQ
          · exact this
          · rw [u2_off (by decide), u2_off (by decide)]; exact r1
          · rw [u2_off (by decide), u2_off (by decide)]; exact r2
          · rw [u2_off (by decide), u2_off (by decide)]; exact r3
          · refine K 2 row _ 2 (Or.inr ⟨rfl, rfl, rfl⟩) ?_ ?_ ?_ (fun _ => ?_) (fun y => absurd y (by decide))
            · rw [u2_off (by decide), u2_row]
            · rw [u2_off (by decide), u2_off (by decide)]
            · rw [u2_off (by decide), u2_off (by decide)]
            · rw [u2_row, u2_off (by decide)]
        · have ex : sIn1 J (cap + space) t (row, srv, nx, F) = (row ++ [nx], srv, nx + 1, upd2 (inF J t nx F) 0 nx 3) := by
            unfold sIn1
            rw [if_pos (show (row.length : Int) + srv.length < cap + space by omega)]
          rw [ex] at hQ hp'
          refine (s_waits (d := d) (j := nx) (w := row.length) r1 (by omega) (by omega)).cal fun v2 M2 hM2 => ?_
          subst hM2
          have hfA : FC rcs [40] M0 (upd2 (upd2 (upd2 M1 167 nx 4) 171 row.length (nx : Int)) 175 40 ((row.length : Int) + 1)) := ((hf.u2 (by simp) (by decide)).u2 (by simp) (by decide)).slot (by simp)
          have := arr_45 (d := d) (many := many) hV hn hJ ht hcap hsp f (row ++ [nx], srv, nx + 1, upd2 (inF J t nx F) 0 nx 3) (upd2 (upd2 (upd2 M1 167 nx 4) 171 row.length (nx : Int)) 175 40 ((row.length : Int) + 1)) (clr o4) o6 hp' (by show n ≤ nx + 1 + f; omega) hge' hfA (by rw [u2_off (by decide), u2_off (by decide), u2_off (by decide)]; exact h172) ⟨?_, ?_, ?_, ?_⟩ hQ
          · exact this
          · rw [u2_same]
            show (row.length : Int) + 1 = ((row ++ [nx]).length : Int)
            rw [List.length_append]; rfl
          · rw [u2_ne (by decide), u2_off (by decide), u2_off (by decide)]; exact r2
          · rw [u2_off (by decide), u2_row, u2_off (by decide)]; exact r3.app
          · refine K 3 (row ++ [nx]) _ 4 (Or.inl ⟨rfl, rfl, rfl⟩) ?_ ?_ ?_ (fun y => absurd y (by decide)) (fun _ => ?_)
            · rw [u2_off (by decide), u2_off (by decide), u2_row]
            · rw [u2_off (by decide), u2_off (by decide), u2_off (by decide)]
            · rw [u2_off (by decide), u2_off (by decide), u2_off (by decide)]
            · rw [u2_off (by decide), u2_off (by decide), u2_off (by decide)]
    · refine skip_45 hV en eJ ht (Nat.le_refl n) (fun o4 => fin o4 hx) (n - x.2.2.1) x.2.2.1 o4 (by omega) fun a h1 h2 => ?_
      have q1 : ¬ J (4 * x.2.2.1) ≤ t := fun z => hx ⟨by omega, z⟩
      have q2 := hV.mono (a - x.2.2.1) x.2.2.1 (by omega)
      rw [show x.2.2.1 + (a - x.2.2.1) = a by omega] at q2
      omega
theorem s_goesAndComes {d : Nat} {M : Mem} {n : Nat} {J : Nat → Int} {many space wait t : Int} {x : SG} (hV : VJ n J) (hn : M 175 6 = n) (hJ : M 151 = J) (ht : 0 ≤ t ∧ t ≤ 1500) (hm : 1 ≤ many ∧ many ≤ 4) (hsp : 0 ≤ space ∧ space ≤ 24) (hw : 1 ≤ wait ∧ wait ≤ 5000) (hI : AtI n J many t x) (hR : RPl M n J x) :
    Post (d + 2) cM_goesAndComes [oM, .inl t, .inl many, .inl space, .inl wait] M (fun _ M' => FC rcs [40] M M' ∧ M' 172 = M 172 ∧ RPl M' n J (sIn n J (many + space) t 24 (sGo J wait t x))) := by
  intro Q hQ
  obtain ⟨hp, h1, h2, h3⟩ := hI
  have h24 := hV.1
  have hx1 := hp.1
  refine e_M_goesAndComes (b_M_goesAndComes_0 ?_)
  rw [hR.1]
  refine gac_5 (d := d) (M0 := M) (x := x) (o6 := none) hV hJ hp ht hw (fun M' o4 o6 f1 f2 g1 => ?_) x.1.length M _ (Nat.le_refl _) FC.rfl' rfl (by rw [goK_len]; exact hR)
  have p1 := sGo_pvi (J := J) (wait := wait) ht.1 hp
  refine skip_45 hV (by rw [f1.2 6 (by simp)]; exact hn) (by rw [f1.1 151 (by decide) (by decide)]; exact hJ) ht hx1 (fun o4 => ?_) x.2.2.1 0 o4 (by omega) (fun a _ ha => by have := h1 a ha; omega)
  exact arr_45 (d := d) (M0 := M) (many := many) hV hn hJ ht ⟨by omega, by omega⟩ hsp 24 (sGo J wait t x) M' o4 o6 p1 (by show n ≤ x.2.2.1 + 24; omega) (fun a q1 q2 => h2 a q2 q1) f1 f2 g1 fun M'' k1 k2 k3 => hQ 0 M'' ⟨k1, k2, k3⟩
