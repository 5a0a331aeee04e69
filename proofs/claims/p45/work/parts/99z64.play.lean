/-! The play of a line, as such. -/
/-- the row, those who are served, how many have come, and of each: state, rest, first tick, end -/
abbrev SG : Type := List Nat × List Nat × Nat × Mem
def gonD (J : Nat → Int) (wait t : Int) (F : Mem) (j : Nat) : Bool := decide (F 2 j = -1 ∧ J (4 * j) + wait ≤ t)
def goF (J : Nat → Int) (wait t : Int) (row : List Nat) (F : Mem) : Mem := fun c k => if k ∈ row ∧ gonD J wait t F k = true then (if c = 0 then 1 else if c = 3 then t else F c k) else F c k
def sGo (J : Nat → Int) (wait t : Int) (x : SG) : SG := (x.1.filter (fun j => !gonD J wait t x.2.2.2 j), x.2.1, x.2.2.1, goF J wait t x.1 x.2.2.2)
def inF (J : Nat → Int) (t : Int) (k : Nat) (F : Mem) : Mem := upd2 (upd2 (upd2 F 2 k (-1)) 3 k t) 1 k (J (4 * k + 1))
def sIn1 (J : Nat → Int) (cap t : Int) (x : SG) : SG := if (x.1.length : Int) + x.2.1.length < cap then (x.1 ++ [x.2.2.1], x.2.1, x.2.2.1 + 1, upd2 (inF J t x.2.2.1 x.2.2.2) 0 x.2.2.1 3) else (x.1, x.2.1, x.2.2.1 + 1, upd2 (inF J t x.2.2.1 x.2.2.2) 0 x.2.2.1 2)
def sIn (n : Nat) (J : Nat → Int) (cap t : Int) : Nat → SG → SG
  | 0, x => x
  | f + 1, x => if x.2.2.1 < n ∧ J (4 * x.2.2.1) ≤ t then sIn n J cap t f (sIn1 J cap t x) else x
def keyF (J : Nat → Int) (by_ : Int) (F : Mem) (j : Nat) : Int := if by_ = 2 then J (4 * j + 1) else if by_ = 3 then J (4 * j + 2) else F 1 j
/-- whether one is taken rather than another one -/
def rather (kf : Nat → Int) (a b : Nat) : Prop := kf a < kf b ∨ (kf a = kf b ∧ a < b)
def bpl (kf : Nat → Int) (row : List Nat) : Nat → Nat → Nat → Nat
  | 0, b, _ => b
  | f + 1, b, k => if kf (row.getD k 0) < kf (row.getD b 0) ∨ (kf (row.getD k 0) = kf (row.getD b 0) ∧ row.getD k 0 < row.getD b 0) then bpl kf row f k (k + 1) else bpl kf row f b (k + 1)
def plc (J : Nat → Int) (by_ : Int) (row : List Nat) (F : Mem) : Nat := if by_ = 1 then row.length - 1 else if by_ = 0 ∨ by_ = 4 then 0 else bpl (keyF J by_ F) row (row.length - 1) 0 1
/-- where one stands among those who are served -/
def ipl (l : List Nat) (j : Nat) : Nat → Nat
  | 0 => 0
  | p + 1 => if j < l.getD p 0 then ipl l j p else p + 1
def sSeat1 (J : Nat → Int) (by_ t : Int) (x : SG) : SG :=
  (x.1.eraseIdx (plc J by_ x.1 x.2.2.2), x.2.1.insertIdx (ipl x.2.1 (x.1.getD (plc J by_ x.1 x.2.2.2) 0) x.2.1.length) (x.1.getD (plc J by_ x.1 x.2.2.2) 0), x.2.2.1,
    if x.2.2.2 2 (x.1.getD (plc J by_ x.1 x.2.2.2) 0) = -1 then upd2 x.2.2.2 2 (x.1.getD (plc J by_ x.1 x.2.2.2) 0) t else x.2.2.2)
def sSeat (J : Nat → Int) (many by_ t : Int) : Nat → SG → SG
  | 0, x => x
  | f + 1, x => if (x.2.1.length : Int) < many ∧ 0 < x.1.length then sSeat J many by_ t f (sSeat1 J by_ t x) else x
def sWk (by_ t : Int) : List Nat → SG → SG
  | [], x => x
  | j :: L, x => if x.2.2.2 1 j - 1 ≤ 0 then sWk by_ t L (x.1, x.2.1, x.2.2.1, upd2 (upd2 (upd2 x.2.2.2 1 j (x.2.2.2 1 j - 1)) 0 j 0) 3 j (t + 1))
    else if 4 ≤ by_ then sWk by_ t L (x.1 ++ [j], x.2.1, x.2.2.1, upd2 x.2.2.2 1 j (x.2.2.2 1 j - 1))
    else sWk by_ t L (x.1, x.2.1 ++ [j], x.2.2.1, upd2 x.2.2.2 1 j (x.2.2.2 1 j - 1))
def sWork (by_ t : Int) (x : SG) : SG := sWk by_ t x.2.1 (x.1, [], x.2.2.1, x.2.2.2)
/-- behind (c) -/
def sMid (n : Nat) (J : Nat → Int) (many by_ space wait t : Int) (x : SG) : SG := sSeat J many by_ t 24 (sIn n J (many + space) t 24 (sGo J wait t x))
def sAt (n : Nat) (J : Nat → Int) (many by_ space wait : Int) : Nat → SG
  | 0 => ([], [], 0, fun _ _ => 0)
  | t + 1 => sWork by_ (t : Int) (sMid n J many by_ space wait (t : Int) (sAt n J many by_ space wait t))
def sNum (x : SG) : Int := (x.1.length : Int) + x.2.1.length
def sOn (n : Nat) (x : SG) : Prop := x.2.2.1 < n ∨ 0 < x.1.length + x.2.1.length
/-- what holds at all points of a tick -/
def PVi (n : Nat) (many t : Int) (x : SG) : Prop := x.2.2.1 ≤ n ∧ (x.1 ++ x.2.1).Nodup ∧ (∀ j, j ∈ x.1 ++ x.2.1 → j < x.2.2.1) ∧ x.2.1.Pairwise (· < ·) ∧
  (∀ k, k < x.2.2.1 → (x.2.2.2 0 k = 3 ↔ k ∈ x.1 ++ x.2.1) ∧ 0 ≤ x.2.2.2 0 k ∧ x.2.2.2 0 k ≤ 3 ∧ -1 ≤ x.2.2.2 2 k ∧ x.2.2.2 2 k ≤ t ∧ 0 ≤ x.2.2.2 3 k ∧ x.2.2.2 3 k ≤ t + 1) ∧
  (∀ j, j ∈ x.1 ++ x.2.1 → 1 ≤ x.2.2.2 1 j ∧ x.2.2.2 1 j ≤ 40) ∧ (∀ j, j ∈ x.2.1 → x.2.2.2 2 j ≠ -1) ∧ x.1.length + x.2.1.length ≤ x.2.2.1 ∧ (x.2.1.length : Int) ≤ many
theorem sGo_pvi {n : Nat} {J : Nat → Int} {many wait t : Int} {x : SG} (ht : 0 ≤ t) (h : PVi n many t x) : PVi n many t (sGo J wait t x) := by
  obtain ⟨row, srv, nx, F⟩ := x
  obtain ⟨h1, h2, h3, h4, h5, h6, h7, h8, h9⟩ := h
  dsimp only at *
  have hm : ∀ j, j ∈ row.filter (fun j => !gonD J wait t F j) ↔ j ∈ row ∧ ¬ gonD J wait t F j = true := fun j => by simp [List.mem_filter]
  have hsub : (row.filter (fun j => !gonD J wait t F j)).Sublist row := List.filter_sublist
  have hdis : ∀ j, j ∈ srv → ¬ j ∈ row := fun j q1 q2 => by
    have := List.nodup_append.mp h2
    exact this.2.2 j q2 j q1 rfl
  refine ⟨h1, ?_, fun j hj => ?_, h4, fun k hk => ?_, fun j hj => ?_, fun j hj => ?_, ?_, h9⟩
  · exact (hsub.append (List.Sublist.refl srv)).nodup h2
  · refine h3 j ?_
    rcases List.mem_append.mp hj with q | q
    · exact List.mem_append_left _ ((hm j).mp q).1
    · exact List.mem_append_right _ q
  · obtain ⟨a1, a2, a3, a4, a5, a6, a7⟩ := h5 k hk
    show (goF J wait t row F 0 k = 3 ↔ _) ∧ 0 ≤ goF J wait t row F 0 k ∧ goF J wait t row F 0 k ≤ 3 ∧ -1 ≤ goF J wait t row F 2 k ∧ goF J wait t row F 2 k ≤ t ∧ 0 ≤ goF J wait t row F 3 k ∧ goF J wait t row F 3 k ≤ t + 1
    by_cases q : k ∈ row ∧ gonD J wait t F k = true
    · have g0 : goF J wait t row F 0 k = 1 := by unfold goF; rw [if_pos q]; rfl
      have g2 : goF J wait t row F 2 k = F 2 k := by unfold goF; rw [if_pos q]; rfl
      have g3 : goF J wait t row F 3 k = t := by unfold goF; rw [if_pos q]; rfl
      rw [g0, g2, g3]
      refine ⟨⟨fun z => absurd z (by decide), fun z => ?_⟩, by decide, by decide, a4, a5, ht, by omega⟩
      rcases List.mem_append.mp z with y | y
      · exact absurd q.2 ((hm k).mp y).2
      · exact absurd q.1 (hdis k y)
    · have g : ∀ c, goF J wait t row F c k = F c k := fun c => by unfold goF; rw [if_neg q]
      rw [g, g, g]
      refine ⟨⟨fun z => ?_, fun z => a1.mpr ?_⟩, a2, a3, a4, a5, a6, a7⟩
      · rcases List.mem_append.mp (a1.mp z) with y | y
        · exact List.mem_append_left _ ((hm k).mpr ⟨y, fun w => q ⟨y, w⟩⟩)
        · exact List.mem_append_right _ y
      · rcases List.mem_append.mp z with y | y
        · exact List.mem_append_left _ ((hm k).mp y).1
        · exact List.mem_append_right _ y
  · have hj' : j ∈ row ++ srv := by
      rcases List.mem_append.mp hj with q | q
      · exact List.mem_append_left _ ((hm j).mp q).1
      · exact List.mem_append_right _ q
    have e : goF J wait t row F 1 j = F 1 j := by
      unfold goF
      by_cases q : j ∈ row ∧ gonD J wait t F j = true
      · rw [if_pos q]; rfl
      · rw [if_neg q]
    show 1 ≤ goF J wait t row F 1 j ∧ goF J wait t row F 1 j ≤ 40
    rw [e]
    exact h6 j hj'
  · show goF J wait t row F 2 j ≠ -1
    unfold goF
    rw [if_neg fun q => hdis j hj q.1]
    exact h7 j hj
  · have := hsub.length_le
    show (row.filter (fun j => !gonD J wait t F j)).length + srv.length ≤ nx
    omega
theorem u2' {F : Mem} {a k c j : Nat} {v : Int} : upd2 F a k v c j = if c = a ∧ j = k then v else F c j := by
  by_cases e : c = a
  · subst e
    by_cases e2 : j = k
    · subst e2; rw [u2_same, if_pos ⟨rfl, rfl⟩]
    · rw [u2_ne e2, if_neg fun z => e2 z.2]
  · rw [u2_off e, if_neg fun z => e z.1]
theorem sIn1_pvi {n : Nat} {J : Nat → Int} {many cap t : Int} {x : SG} (ht : 0 ≤ t) (hV : VJ n J) (h : PVi n many t x) (hx : x.2.2.1 < n) : PVi n many t (sIn1 J cap t x) := by
  obtain ⟨row, srv, nx, F⟩ := x
  obtain ⟨h1, h2, h3, h4, h5, h6, h7, h8, h9⟩ := h
  dsimp only at *
  have hnot : ∀ j, j ∈ row ++ srv → j ≠ nx := fun j hj => by have := h3 j hj; omega
  obtain ⟨j1, j2, j3, j4⟩ := hV.2.1 nx hx
  have keep : ∀ (v : Int) (c k : Nat), k ≠ nx → upd2 (inF J t nx F) 0 nx v c k = F c k := fun v c k hk => by
    unfold inF
    rw [u2', if_neg fun z => hk z.2, u2', if_neg fun z => hk z.2, u2', if_neg fun z => hk z.2, u2', if_neg fun z => hk z.2]
  have new0 : ∀ v, upd2 (inF J t nx F) 0 nx v 0 nx = v := fun v => u2_same
  have new1 : ∀ v, upd2 (inF J t nx F) 0 nx v 1 nx = J (4 * nx + 1) := fun v => by unfold inF; rw [u2_off (by decide), u2_same]
  have new2 : ∀ v, upd2 (inF J t nx F) 0 nx v 2 nx = -1 := fun v => by unfold inF; rw [u2_off (by decide), u2_off (by decide), u2_off (by decide), u2_same]
  have new3 : ∀ v, upd2 (inF J t nx F) 0 nx v 3 nx = t := fun v => by unfold inF; rw [u2_off (by decide), u2_off (by decide), u2_same]
  unfold sIn1
  by_cases q : (row.length : Int) + srv.length < cap
  · rw [if_pos q]
    have hmem : ∀ j, j ∈ (row ++ [nx]) ++ srv ↔ j ∈ row ++ srv ∨ j = nx := fun j => by rw [List.mem_append, List.mem_append, List.mem_append, List.mem_singleton]; exact or_right_comm
    refine ⟨hx, ?_, fun j hj => ?_, h4, fun k hk => ?_, fun j hj => ?_, fun j hj => ?_, ?_, h9⟩
    · have hp : ((row ++ [nx]) ++ srv).Perm (nx :: (row ++ srv)) := by
        rw [List.append_assoc]
        exact List.perm_middle
      rw [hp.nodup_iff]
      exact List.nodup_cons.mpr ⟨fun z => hnot nx z rfl, h2⟩
    · rcases (hmem j).mp hj with z | z
      · have := h3 j z
        show j < nx + 1
        omega
      · show j < nx + 1
        omega
    · dsimp only
      by_cases e : k = nx
      · subst e
        rw [new0, new2, new3]
        exact ⟨⟨fun _ => (hmem k).mpr (Or.inr rfl), fun _ => rfl⟩, by decide, by decide, by decide, by omega, ht, by omega⟩
      · rw [keep _ _ _ e, keep _ _ _ e, keep _ _ _ e]
        have hk' : k < nx := by
          have : k < nx + 1 := hk
          omega
        obtain ⟨a1, a2⟩ := h5 k hk'
        refine ⟨⟨fun z => (hmem k).mpr (Or.inl (a1.mp z)), fun z => a1.mpr ?_⟩, a2⟩
        rcases (hmem k).mp z with y | y
        · exact y
        · exact absurd y e
    · dsimp only
      rcases (hmem j).mp hj with z | z
      · rw [keep _ _ _ (hnot j z)]; exact h6 j z
      · subst z; rw [new1]; exact j2
    · dsimp only
      rw [keep _ _ _ (hnot j (List.mem_append_right _ hj))]; exact h7 j hj
    · show (row ++ [nx]).length + srv.length ≤ nx + 1
      rw [List.length_append]
      show row.length + 1 + srv.length ≤ nx + 1
      omega
  · rw [if_neg q]
    refine ⟨hx, h2, fun j hj => ?_, h4, fun k hk => ?_, fun j hj => ?_, fun j hj => ?_, ?_, h9⟩
    · have := h3 j hj
      show j < nx + 1
      omega
    · dsimp only
      by_cases e : k = nx
      · subst e
        rw [new0, new2, new3]
        exact ⟨⟨fun z => absurd z (by decide), fun z => absurd rfl (hnot k z)⟩, by decide, by decide, by decide, by omega, ht, by omega⟩
      · rw [keep _ _ _ e, keep _ _ _ e, keep _ _ _ e]
        have hk' : k < nx := by
          have : k < nx + 1 := hk
          omega
        exact h5 k hk'
    · dsimp only
      rw [keep _ _ _ (hnot j hj)]; exact h6 j hj
    · dsimp only
      rw [keep _ _ _ (hnot j (List.mem_append_right _ hj))]; exact h7 j hj
    · show row.length + srv.length ≤ nx + 1
      omega
theorem sIn_pvi {n : Nat} {J : Nat → Int} {many cap t : Int} (ht : 0 ≤ t) (hV : VJ n J) : ∀ (f : Nat) (x : SG), PVi n many t x → PVi n many t (sIn n J cap t f x)
  | 0, _, h => h
  | f + 1, x, h => by
    unfold sIn
    by_cases q : x.2.2.1 < n ∧ J (4 * x.2.2.1) ≤ t
    · rw [if_pos q]; exact sIn_pvi ht hV f _ (sIn1_pvi ht hV h q.1)
    · rw [if_neg q]; exact h
theorem bpl_lt {kf : Nat → Int} {row : List Nat} : ∀ (f b k : Nat), b < row.length → k + f ≤ row.length → bpl kf row f b k < row.length
  | 0, b, k, hb, _ => hb
  | f + 1, b, k, hb, hk => by
    unfold bpl
    by_cases q : kf (row.getD k 0) < kf (row.getD b 0) ∨ (kf (row.getD k 0) = kf (row.getD b 0) ∧ row.getD k 0 < row.getD b 0)
    · rw [if_pos q]; exact bpl_lt f k (k + 1) (by omega) (by omega)
    · rw [if_neg q]; exact bpl_lt f b (k + 1) hb (by omega)
theorem plc_lt {J : Nat → Int} {by_ : Int} {row : List Nat} {F : Mem} (h : 0 < row.length) : plc J by_ row F < row.length := by
  unfold plc
  by_cases q : by_ = 1
  · rw [if_pos q]; omega
  · rw [if_neg q]
    by_cases q2 : by_ = 0 ∨ by_ = 4
    · rw [if_pos q2]; exact h
    · rw [if_neg q2]; exact bpl_lt _ 0 1 h (by omega)
theorem ipl_le {l : List Nat} {j : Nat} : ∀ p, ipl l j p ≤ p
  | 0 => Nat.le_refl 0
  | p + 1 => by
    unfold ipl
    by_cases q : j < l.getD p 0
    · rw [if_pos q]; have := ipl_le (l := l) (j := j) p; omega
    · rw [if_neg q]; exact Nat.le_refl _
