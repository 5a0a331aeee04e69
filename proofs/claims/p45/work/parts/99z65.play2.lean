/-! The play: taking a seat, working. -/
theorem getD_lt {l : List Nat} {i : Nat} (h : i < l.length) : l.getD i 0 = l[i] := by
  rw [List.getD_eq_getElem?_getD, List.getElem?_eq_getElem h]; rfl
theorem ipl_hi {l : List Nat} {j : Nat} : ∀ p, ∀ q, ipl l j p ≤ q → q < p → j < l.getD q 0
  | 0, q, _, h => absurd h (by omega)
  | p + 1, q, h1, h2 => by
    unfold ipl at h1
    by_cases e : j < l.getD p 0
    · rw [if_pos e] at h1
      by_cases z : q = p
      · subst z; exact e
      · exact ipl_hi p q h1 (by omega)
    · rw [if_neg e] at h1; omega
theorem ipl_lo {l : List Nat} {j : Nat} : ∀ p, 0 < ipl l j p → ¬ j < l.getD (ipl l j p - 1) 0
  | 0, h => absurd h (Nat.lt_irrefl 0)
  | p + 1, h => by
    unfold ipl at h ⊢
    by_cases e : j < l.getD p 0
    · rw [if_pos e] at h ⊢; exact ipl_lo p h
    · rw [if_neg e, Nat.add_sub_cancel]; exact e
theorem ins_sorted {l : List Nat} {j : Nat} (h : l.Pairwise (· < ·)) (hj : ¬ j ∈ l) : (l.insertIdx (ipl l j l.length) j).Pairwise (· < ·) := by
  have hi := ipl_le (l := l) (j := j) l.length
  have hhi := ipl_hi (l := l) (j := j) l.length
  have hlo := ipl_lo (l := l) (j := j) l.length
  have hs := List.pairwise_iff_getElem.mp h
  generalize ipl l j l.length = i at *
  have up : ∀ q (hq : q < l.length), i ≤ q → j < l[q] := fun q hq h => by
    have := hhi q h hq
    rwa [getD_lt hq] at this
  have dn : ∀ q (hq : q < l.length), q < i → l[q] < j := fun q hq h => by
    have h1 : ¬ j < l[i - 1] := by
      have := hlo (by omega)
      rwa [getD_lt (by omega)] at this
    have h2 : l[q] ≤ l[i - 1] := by
      by_cases e : q = i - 1
      · subst e; exact Nat.le_refl _
      · exact Nat.le_of_lt (hs q (i - 1) hq (by omega) (by omega))
    have h3 : l[q] ≠ j := fun e => hj (by rw [← e]; exact List.getElem_mem hq)
    omega
  rw [List.pairwise_iff_getElem]
  intro a b ha hb hab
  have hl : (l.insertIdx i j).length = l.length + 1 := List.length_insertIdx_of_le_length hi j
  rw [List.getElem_insertIdx, List.getElem_insertIdx]
  by_cases a1 : a < i
  · rw [dif_pos a1]
    by_cases b1 : b < i
    · rw [dif_pos b1]; exact hs a b _ _ hab
    · rw [dif_neg b1]
      by_cases b2 : b = i
      · rw [dif_pos b2]; exact dn a _ a1
      · rw [dif_neg b2]; exact hs a (b - 1) _ _ (by omega)
  · rw [dif_neg a1, dif_neg (show ¬ b < i by omega), dif_neg (show ¬ b = i by omega)]
    by_cases a2 : a = i
    · rw [dif_pos a2]; exact up (b - 1) _ (by omega)
    · rw [dif_neg a2]; exact hs (a - 1) (b - 1) _ _ (by omega)
theorem erase_perm : ∀ (l : List Nat) (p : Nat), p < l.length → l.Perm (l.getD p 0 :: l.eraseIdx p)
  | [], p, h => absurd h (by simp)
  | a :: l, 0, _ => List.Perm.refl _
  | a :: l, p + 1, h => by
    have ih := erase_perm l p (by simpa using h)
    exact (List.Perm.cons a ih).trans (List.Perm.swap _ _ _)
theorem seat_perm {row srv : List Nat} {p i : Nat} (hp : p < row.length) (hi : i ≤ srv.length) : (row.eraseIdx p ++ srv.insertIdx i (row.getD p 0)).Perm (row ++ srv) := by
  have h1 : (srv.insertIdx i (row.getD p 0)).Perm (row.getD p 0 :: srv) := List.perm_insertIdx _ _ hi
  have h2 := erase_perm row p hp
  have a1 : (row.eraseIdx p ++ srv.insertIdx i (row.getD p 0)).Perm (row.eraseIdx p ++ (row.getD p 0 :: srv)) := h1.append_left _
  have a2 : (row.eraseIdx p ++ (row.getD p 0 :: srv)).Perm (row.getD p 0 :: (row.eraseIdx p ++ srv)) := List.perm_middle
  have a3 : (row ++ srv).Perm ((row.getD p 0 :: row.eraseIdx p) ++ srv) := h2.append_right srv
  exact (a1.trans a2).trans a3.symm
theorem sSeat1_pvi {n : Nat} {J : Nat → Int} {many by_ t : Int} {x : SG} (ht : 0 ≤ t) (h : PVi n many t x) (h0 : 0 < x.1.length) (hm : (x.2.1.length : Int) < many) : PVi n many t (sSeat1 J by_ t x) := by
  obtain ⟨row, srv, nx, F⟩ := x
  obtain ⟨h1, h2, h3, h4, h5, h6, h7, h8, h9⟩ := h
  dsimp only at *
  have hp := plc_lt (J := J) (by_ := by_) (row := row) (F := F) h0
  unfold sSeat1
  dsimp only
  generalize plc J by_ row F = p at *
  have hi := ipl_le (l := srv) (j := row.getD p 0) srv.length
  have hper := seat_perm (row := row) (srv := srv) hp hi
  have hjr : row.getD p 0 ∈ row := by rw [getD_lt hp]; exact List.getElem_mem hp
  have hjs : ¬ row.getD p 0 ∈ srv := fun z => (List.nodup_append.mp h2).2.2 _ hjr _ z rfl
  have hso := ins_sorted h4 hjs
  have hmi : ∀ j, j ∈ srv.insertIdx (ipl srv (row.getD p 0) srv.length) (row.getD p 0) ↔ j = row.getD p 0 ∨ j ∈ srv := fun j => List.mem_insertIdx hi
  generalize row.getD p 0 = v at *
  have hmem : ∀ j, j ∈ row.eraseIdx p ++ srv.insertIdx (ipl srv v srv.length) v ↔ j ∈ row ++ srv := fun j => hper.mem_iff
  have hF : ∀ c k, c ≠ 2 → (if F 2 v = -1 then upd2 F 2 v t else F) c k = F c k := fun c k hc => by
    by_cases e : F 2 v = -1
    · rw [if_pos e, u2_off hc]
    · rw [if_neg e]
  refine ⟨h1, hper.nodup_iff.mpr h2, fun j hj => h3 j ((hmem j).mp hj), hso, fun k hk => ?_, fun j hj => ?_, fun j hj => ?_, ?_, ?_⟩
  · obtain ⟨a1, a2, a3, a4, a5, a6, a7⟩ := h5 k hk
    dsimp only
    rw [hF 0 k (by decide), hF 3 k (by decide), hmem k]
    refine ⟨a1, a2, a3, ?_, ?_, a6, a7⟩
    all_goals
      by_cases e : F 2 v = -1
      · rw [if_pos e, u2']
        by_cases e2 : (2 : Nat) = 2 ∧ k = v
        · rw [if_pos e2]; omega
        · rw [if_neg e2]; assumption
      · rw [if_neg e]; assumption
  · dsimp only
    rw [hF 1 j (by decide)]
    exact h6 j ((hmem j).mp hj)
  · dsimp only
    by_cases e : F 2 v = -1
    · rw [if_pos e, u2']
      by_cases e2 : (2 : Nat) = 2 ∧ j = v
      · rw [if_pos e2]; omega
      · rw [if_neg e2]
        rcases (hmi j).mp hj with z | z
        · exact absurd ⟨rfl, z⟩ e2
        · exact h7 j z
    · rw [if_neg e]
      rcases (hmi j).mp hj with z | z
      · subst z; exact e
      · exact h7 j z
  · have := hper.length_eq
    rw [List.length_append, List.length_append] at this
    show (row.eraseIdx p).length + (srv.insertIdx (ipl srv v srv.length) v).length ≤ nx
    omega
  · show ((srv.insertIdx (ipl srv v srv.length) v).length : Int) ≤ many
    rw [List.length_insertIdx_of_le_length hi]
    omega
theorem sSeat_pvi {n : Nat} {J : Nat → Int} {many by_ t : Int} (ht : 0 ≤ t) : ∀ (f : Nat) (x : SG), PVi n many t x → PVi n many t (sSeat J many by_ t f x)
  | 0, _, h => h
  | f + 1, x, h => by
    unfold sSeat
    by_cases q : (x.2.1.length : Int) < many ∧ 0 < x.1.length
    · rw [if_pos q]; exact sSeat_pvi ht f _ (sSeat1_pvi ht h q.2 q.1)
    · rw [if_neg q]; exact h
/-- in the midst of (d): those of the list L are still to be gone through -/
def WVi (n : Nat) (many t : Int) (L : List Nat) (x : SG) : Prop := x.2.2.1 ≤ n ∧ ((x.1 ++ x.2.1) ++ L).Nodup ∧ (∀ j, j ∈ (x.1 ++ x.2.1) ++ L → j < x.2.2.1) ∧ (x.2.1 ++ L).Pairwise (· < ·) ∧
  (∀ k, k < x.2.2.1 → (x.2.2.2 0 k = 3 ↔ k ∈ (x.1 ++ x.2.1) ++ L) ∧ 0 ≤ x.2.2.2 0 k ∧ x.2.2.2 0 k ≤ 3 ∧ -1 ≤ x.2.2.2 2 k ∧ x.2.2.2 2 k ≤ t ∧ 0 ≤ x.2.2.2 3 k ∧ x.2.2.2 3 k ≤ t + 1) ∧
  (∀ j, j ∈ (x.1 ++ x.2.1) ++ L → 1 ≤ x.2.2.2 1 j ∧ x.2.2.2 1 j ≤ 40) ∧ (∀ j, j ∈ x.2.1 ++ L → x.2.2.2 2 j ≠ -1) ∧ (x.1.length + x.2.1.length) + L.length ≤ x.2.2.1 ∧ (x.2.1.length : Int) + L.length ≤ many
theorem wk_perm1 {row srv L : List Nat} {j : Nat} : ((row ++ [j] ++ srv) ++ L).Perm ((row ++ srv) ++ j :: L) := by
  have h1 : (row ++ [j] ++ srv).Perm (row ++ srv ++ [j]) := by
    rw [List.append_assoc, List.append_assoc]
    exact List.Perm.append_left row List.perm_append_comm
  have h2 := h1.append_right L
  rw [List.append_assoc (row ++ srv)] at h2
  exact h2
theorem wk_eq2 {row srv L : List Nat} {j : Nat} : (row ++ (srv ++ [j])) ++ L = (row ++ srv) ++ j :: L := by simp
theorem sWk_pvi {n : Nat} {many by_ t : Int} (ht : 0 ≤ t) : ∀ (L : List Nat) (x : SG), WVi n many t L x → PVi n many (t + 1) (sWk by_ t L x)
  | [], (row, srv, nx, F), ⟨h1, h2, h3, h4, h5, h6, h7, h8, h9⟩ => by
    dsimp only at *
    simp only [List.append_nil] at h2 h3 h4 h5 h6 h7
    have b8 : row.length + srv.length ≤ nx := by simpa using h8
    have b9 : (srv.length : Int) ≤ many := by simpa using h9
    refine ⟨h1, h2, h3, h4, fun k hk => ?_, h6, h7, b8, b9⟩
    obtain ⟨a1, a2, a3, a4, a5, a6, a7⟩ := h5 k hk
    have b5 : F 2 k ≤ t + 1 := by omega
    have b7 : F 3 k ≤ t + 1 + 1 := by omega
    exact ⟨a1, a2, a3, a4, b5, a6, b7⟩
  | j :: L, (row, srv, nx, F), ⟨h1, h2, h3, h4, h5, h6, h7, h8, h9⟩ => by
    dsimp only at *
    have hj : j ∈ (row ++ srv) ++ j :: L := List.mem_append_right _ List.mem_cons_self
    have hjL : ¬ j ∈ (row ++ srv) ++ L := by
      have hp : ((row ++ srv) ++ j :: L).Perm (j :: ((row ++ srv) ++ L)) := List.perm_middle
      exact (List.nodup_cons.mp (hp.nodup_iff.mp h2)).1
    have hF1 : ∀ c k, ¬ (c = 1 ∧ k = j) → upd2 F 1 j (F 1 j - 1) c k = F c k := fun c k h => by rw [u2', if_neg h]
    have hl : (j :: L).length = L.length + 1 := rfl
    unfold sWk
    dsimp only
    have hb := h6 j hj
    by_cases q : F 1 j - 1 ≤ 0
    · rw [if_pos q]
      refine sWk_pvi ht L _ ⟨h1, ?_, fun k hk => ?_, ?_, fun k hk => ?_, fun k hk => ?_, fun k hk => ?_, ?_, ?_⟩
      all_goals dsimp only
      · have hp : ((row ++ srv) ++ j :: L).Perm (j :: ((row ++ srv) ++ L)) := List.perm_middle
        exact (List.nodup_cons.mp (hp.nodup_iff.mp h2)).2
      · refine h3 k ?_
        rcases List.mem_append.mp hk with z | z
        · exact List.mem_append_left _ z
        · exact List.mem_append_right _ (List.mem_cons_of_mem _ z)
      · have : (srv ++ L).Sublist (srv ++ j :: L) := (List.Sublist.refl srv).append (List.sublist_cons_self j L)
        exact h4.sublist this
      · obtain ⟨a1, a2, a3, a4, a5, a6, a7⟩ := h5 k hk
        by_cases e : k = j
        · subst e
          rw [u2_off (by decide), u2_same, u2_off (by decide), u2_off (by decide), u2_off (by decide), u2_same]
          exact ⟨⟨fun z => absurd z (by decide), fun z => absurd z hjL⟩, by decide, by decide, a4, a5, by omega, by omega⟩
        · have keep : ∀ c, upd2 (upd2 (upd2 F 1 j (F 1 j - 1)) 0 j 0) 3 j (t + 1) c k = F c k := fun c => by
            rw [u2', if_neg fun z => e z.2, u2', if_neg fun z => e z.2, u2', if_neg fun z => e z.2]
          rw [keep, keep, keep]
          refine ⟨⟨fun z => ?_, fun z => a1.mpr ?_⟩, a2, a3, a4, a5, a6, a7⟩
          · rcases List.mem_append.mp (a1.mp z) with y | y
            · exact List.mem_append_left _ y
            · rcases List.mem_cons.mp y with w | w
              · exact absurd w e
              · exact List.mem_append_right _ w
          · rcases List.mem_append.mp z with y | y
            · exact List.mem_append_left _ y
            · exact List.mem_append_right _ (List.mem_cons_of_mem _ y)
      · have e : k ≠ j := fun e => hjL (by rw [← e]; exact hk)
        rw [u2', if_neg fun z => e z.2, u2', if_neg fun z => e z.2, u2', if_neg fun z => e z.2]
        refine h6 k ?_
        rcases List.mem_append.mp hk with z | z
        · exact List.mem_append_left _ z
        · exact List.mem_append_right _ (List.mem_cons_of_mem _ z)
      · rw [u2_off (by decide), u2_off (by decide), u2_off (by decide)]
        refine h7 k ?_
        rcases List.mem_append.mp hk with z | z
        · exact List.mem_append_left _ z
        · exact List.mem_append_right _ (List.mem_cons_of_mem _ z)
      · omega
      · omega
    · rw [if_neg q]
      have com : ∀ k, k < nx → (upd2 F 1 j (F 1 j - 1) 0 k = 3 ↔ k ∈ (row ++ srv) ++ j :: L) ∧ 0 ≤ upd2 F 1 j (F 1 j - 1) 0 k ∧ upd2 F 1 j (F 1 j - 1) 0 k ≤ 3 ∧ -1 ≤ upd2 F 1 j (F 1 j - 1) 2 k ∧ upd2 F 1 j (F 1 j - 1) 2 k ≤ t ∧ 0 ≤ upd2 F 1 j (F 1 j - 1) 3 k ∧ upd2 F 1 j (F 1 j - 1) 3 k ≤ t + 1 := fun k hk => by
        rw [u2_off (by decide), u2_off (by decide), u2_off (by decide)]; exact h5 k hk
      have com6 : ∀ k, k ∈ (row ++ srv) ++ j :: L → 1 ≤ upd2 F 1 j (F 1 j - 1) 1 k ∧ upd2 F 1 j (F 1 j - 1) 1 k ≤ 40 := fun k hk => by
        by_cases e : k = j
        · subst e; rw [u2_same]; omega
        · rw [u2_ne e]; exact h6 k hk
      by_cases q2 : 4 ≤ by_
      · rw [if_pos q2]
        have hm : ∀ k, k ∈ (row ++ [j] ++ srv) ++ L ↔ k ∈ (row ++ srv) ++ j :: L := fun k => wk_perm1.mem_iff
        refine sWk_pvi ht L _ ⟨h1, wk_perm1.nodup_iff.mpr h2, fun k hk => h3 k ((hm k).mp hk), ?_, fun k hk => ?_, fun k hk => com6 k ((hm k).mp hk), fun k hk => ?_, ?_, ?_⟩
        all_goals dsimp only
        · have : (srv ++ L).Sublist (srv ++ j :: L) := (List.Sublist.refl srv).append (List.sublist_cons_self j L)
          exact h4.sublist this
        · rw [hm k]; exact com k hk
        · rw [u2_off (by decide)]
          refine h7 k ?_
          rcases List.mem_append.mp hk with z | z
          · exact List.mem_append_left _ z
          · exact List.mem_append_right _ (List.mem_cons_of_mem _ z)
        · rw [List.length_append]
          show row.length + 1 + srv.length + L.length ≤ nx
          omega
        · omega
      · rw [if_neg q2]
        refine sWk_pvi ht L _ ⟨h1, ?_, fun k hk => h3 k ?_, ?_, fun k hk => ?_, fun k hk => com6 k ?_, fun k hk => ?_, ?_, ?_⟩
        all_goals dsimp only at *
        · rw [wk_eq2]; exact h2
        · rw [wk_eq2] at hk; exact hk
        · rw [List.append_assoc]; exact h4
        · rw [wk_eq2]; exact com k hk
        · rw [wk_eq2] at hk; exact hk
        · rw [u2_off (by decide)]
          rw [List.append_assoc] at hk
          exact h7 k hk
        · rw [List.length_append]
          show row.length + (srv.length + 1) + L.length ≤ nx
          omega
        · rw [List.length_append]
          show ((srv.length + 1 : Nat) : Int) + L.length ≤ many
          omega
theorem sWork_pvi {n : Nat} {many by_ t : Int} {x : SG} (ht : 0 ≤ t) (h : PVi n many t x) : PVi n many (t + 1) (sWork by_ t x) := by
  obtain ⟨row, srv, nx, F⟩ := x
  obtain ⟨h1, h2, h3, h4, h5, h6, h7, h8, h9⟩ := h
  refine sWk_pvi ht srv _ ⟨h1, ?_, ?_, ?_, ?_, ?_, ?_, ?_, ?_⟩
  all_goals simp only [List.append_nil, List.nil_append, List.length_nil, Nat.add_zero]
  · exact h2
  · exact h3
  · exact h4
  · exact h5
  · exact h6
  · exact h7
  · exact h8
  · simpa using h9
