/-! The world of the pure machine on the heap. -/
def cpv (ρ sg : Nat → Nat) : PV → Value
  | .inl x => .int (Int32.ofInt x)
  | .inr (.inl x) => .long (Int64.ofInt x)
  | .inr (.inr (.inl n)) => .ref (ρ n)
  | .inr (.inr (.inr k)) => .ref (sg k)
def isLg : PV → Bool
  | .inr (.inl _) => true
  | _ => false
theorem cpv_cat1 {ρ sg : Nat → Nat} {v : PV} (h : isLg v = false) : (cpv ρ sg v).category = 1 := by
  rcases v with x | x | x | x <;> first | rfl | cases h
theorem cpv_cat2 {ρ sg : Nat → Nat} {v : PV} (h : (cpv ρ sg v).category = 2) : isLg v = true := by
  rcases v with x | x | x | x <;> first | rfl | cases h
def lst (ρ sg : Nat → Nat) : Nat → PL → List (Nat × Value)
  | _, [] => []
  | k, none :: l => lst ρ sg (k + 1) l
  | k, some v :: l => (k, cpv ρ sg v) :: lst ρ sg (k + 1) l
theorem mem_lst {ρ sg : Nat → Nat} {j : Nat} {w : Value} : ∀ (l : PL) (k : Nat), (j, w) ∈ lst ρ sg k l ↔ ∃ (i : Nat) (v : PV), j = k + i ∧ nth l i = some (some v) ∧ w = cpv ρ sg v
  | [], k => by simp [lst, nth]
  | none :: l, k => by
    unfold lst
    rw [mem_lst l (k + 1)]
    constructor
    · rintro ⟨i, v, h1, h2, h3⟩
      exact ⟨i + 1, v, by omega, h2, h3⟩
    · rintro ⟨i, v, h1, h2, h3⟩
      cases i with
      | zero => cases h2
      | succ i => exact ⟨i, v, by omega, h2, h3⟩
  | some u :: l, k => by
    unfold lst
    rw [List.mem_cons, mem_lst l (k + 1)]
    constructor
    · rintro (h | ⟨i, v, h1, h2, h3⟩)
      · cases h
        exact ⟨0, u, rfl, rfl, rfl⟩
      · exact ⟨i + 1, v, by omega, h2, h3⟩
    · rintro ⟨i, v, h1, h2, h3⟩
      cases i with
      | zero =>
        cases h2
        subst h1; subst h3
        exact Or.inl rfl
      | succ i => exact Or.inr ⟨i, v, by omega, h2, h3⟩
theorem nth_stN : ∀ (i : Nat) (v : PV) (l : PL) (j : Nat) (w : PV), nth (stN i v l) j = some (some w) → (j = i ∧ w = v) ∨ (j ≠ i ∧ nth l j = some (some w) ∧ ¬ (j + 1 = i ∧ isLg w = true))
  | 0, v, [], j, w => by simp [stN, nth]
  | 0, v, a :: r, 0, w => by
    intro h
    cases h
    exact Or.inl ⟨rfl, rfl⟩
  | 0, v, a :: r, j + 1, w => fun h => Or.inr ⟨by omega, h, by omega⟩
  | n + 1, v, [], j, w => by simp [stN, nth]
  | 0 + 1, v, a :: r, 0, w => by
    intro h
    have h : clr a = some w := by simpa [stN, nth] using h
    rcases a with _ | a
    · cases h
    · rcases a with x | x | x
      · cases h
        exact Or.inr ⟨by omega, rfl, by rintro ⟨-, q⟩; cases q⟩
      · cases h
      · cases h
        exact Or.inr ⟨by omega, rfl, by rintro ⟨-, q⟩; cases q⟩
  | n + 1 + 1, v, a :: r, 0, w => fun h => Or.inr ⟨by omega, h, by omega⟩
  | n + 1, v, a :: r, j + 1, w => by
    intro h
    rcases nth_stN n v r j w (by cases n <;> exact h) with ⟨h1, h2⟩ | ⟨h1, h2, h3⟩
    · exact Or.inl ⟨by omega, h2⟩
    · exact Or.inr ⟨by omega, h2, fun q => h3 ⟨by omega, q.2⟩⟩
theorem nth_st2N : ∀ (i : Nat) (v : PV) (l : PL) (j : Nat) (w : PV), nth (st2N i v l) j = some (some w) → (j = i ∧ w = v) ∨ (j ≠ i ∧ j ≠ i + 1 ∧ nth l j = some (some w) ∧ ¬ (j + 1 = i ∧ isLg w = true))
  | 0, v, [], j, w => by simp [st2N, nth]
  | 0, v, [a], j, w => by simp [st2N, nth]
  | 0, v, a :: b :: r, 0, w => by
    intro h
    cases h
    exact Or.inl ⟨rfl, rfl⟩
  | 0, v, a :: b :: r, 1, w => fun h => by cases h
  | 0, v, a :: b :: r, j + 2, w => fun h => Or.inr ⟨by omega, by omega, h, by omega⟩
  | n + 1, v, [], j, w => by simp [st2N, nth]
  | 0 + 1, v, a :: r, 0, w => by
    intro h
    have h : clr a = some w := by simpa [st2N, nth] using h
    rcases a with _ | a
    · cases h
    · rcases a with x | x | x
      · cases h
        exact Or.inr ⟨by omega, by omega, rfl, by rintro ⟨-, q⟩; cases q⟩
      · cases h
      · cases h
        exact Or.inr ⟨by omega, by omega, rfl, by rintro ⟨-, q⟩; cases q⟩
  | n + 1 + 1, v, a :: r, 0, w => fun h => Or.inr ⟨by omega, by omega, h, by omega⟩
  | n + 1, v, a :: r, j + 1, w => by
    intro h
    rcases nth_st2N n v r j w (by cases n <;> exact h) with ⟨h1, h2⟩ | ⟨h1, h2, h3, h4⟩
    · exact Or.inl ⟨by omega, h2⟩
    · exact Or.inr ⟨by omega, by omega, h3, fun q => h4 ⟨by omega, q.2⟩⟩
abbrev LR (ρ sg : Nat → Nat) (ls : Array Slot) (nL : Nat) (l : PL) : Prop := lv_has ls nL (lst ρ sg 0 l)
theorem LR.at' {ρ sg : Nat → Nat} {ls : Array Slot} {nL : Nat} {l : PL} (h : LR ρ sg ls nL l) {i : Nat} {v : PV} (hv : nth l i = some (some v)) : ls[i]? = some (.val (cpv ρ sg v)) :=
  h.2.2 (i, cpv ρ sg v) ((mem_lst l 0).mpr ⟨i, v, by omega, hv, rfl⟩)
theorem LR.st1 {ρ sg : Nat → Nat} {ls : Array Slot} {nL : Nat} {l : PL} {i : Nat} {v : PV} (h : lv_has ls nL ((i, cpv ρ sg v) :: (lst ρ sg 0 l).filter (fun q => !(q.1 == i) && !(q.1 + 1 == i && q.2.category == 2)))) : LR ρ sg ls nL (stN i v l) := by
  refine ⟨h.1, h.2.1, fun q hq => h.2.2 q ?_⟩
  obtain ⟨j, w⟩ := q
  obtain ⟨i2, u, h1, h2, h3⟩ := (mem_lst _ 0).mp hq
  have h1 : j = i2 := by omega
  subst h1; subst h3
  rcases nth_stN i v l j u h2 with ⟨e1, e2⟩ | ⟨e1, e2, e3⟩
  · subst e1; subst e2
    exact List.mem_cons_self
  · refine List.mem_cons_of_mem _ (List.mem_filter.mpr ⟨(mem_lst l 0).mpr ⟨j, u, by omega, e2, rfl⟩, ?_⟩)
    rw [Bool.and_eq_true]
    refine ⟨by simp [e1], ?_⟩
    by_cases hc : j + 1 = i
    · have h5 : (cpv ρ sg u).category ≠ 2 := fun z => e3 ⟨hc, cpv_cat2 z⟩
      simp [h5]
    · simp [hc]
theorem LR.st2 {ρ sg : Nat → Nat} {ls : Array Slot} {nL : Nat} {l : PL} {i : Nat} {v : PV} (h : lv_has ls nL ((i, cpv ρ sg v) :: (lst ρ sg 0 l).filter (fun q => !(q.1 == i) && (!(q.1 == i + 1) && !(q.1 + 1 == i && q.2.category == 2))))) : LR ρ sg ls nL (st2N i v l) := by
  refine ⟨h.1, h.2.1, fun q hq => h.2.2 q ?_⟩
  obtain ⟨j, w⟩ := q
  obtain ⟨i2, u, h1, h2, h3⟩ := (mem_lst _ 0).mp hq
  have h1 : j = i2 := by omega
  subst h1; subst h3
  rcases nth_st2N i v l j u h2 with ⟨e1, e2⟩ | ⟨e1, e0, e2, e3⟩
  · subst e1; subst e2
    exact List.mem_cons_self
  · refine List.mem_cons_of_mem _ (List.mem_filter.mpr ⟨(mem_lst l 0).mpr ⟨j, u, by omega, e2, rfl⟩, ?_⟩)
    rw [Bool.and_eq_true, Bool.and_eq_true]
    refine ⟨by simp [e1], by simp [e0], ?_⟩
    by_cases hc : j + 1 = i
    · have h5 : (cpv ρ sg u).category ≠ 2 := fun z => e3 ⟨hc, cpv_cat2 z⟩
      simp [h5]
    · simp [hc]
theorem wsum_cat {ρ sg : Nat → Nat} : ∀ st : PS, ((st.map (cpv ρ sg)).map fun v => v.category).sum = wsum st
  | [] => rfl
  | .inl _ :: r => by
    show 1 + ((r.map (cpv ρ sg)).map fun v => v.category).sum = wsum r + 1
    rw [wsum_cat r]; omega
  | .inr (.inl _) :: r => by
    show 2 + ((r.map (cpv ρ sg)).map fun v => v.category).sum = wsum r + 2
    rw [wsum_cat r]; omega
  | .inr (.inr (.inl _)) :: r => by
    show 1 + ((r.map (cpv ρ sg)).map fun v => v.category).sum = wsum r + 1
    rw [wsum_cat r]; omega
  | .inr (.inr (.inr _)) :: r => by
    show 1 + ((r.map (cpv ρ sg)).map fun v => v.category).sum = wsum r + 1
    rw [wsum_cat r]; omega
/-! ## cells -/
theorem wNth_none {α : Type} : ∀ (l : List α) (n : Nat), l.length ≤ n → wNth l n = none
  | [], _, _ => rfl
  | a :: l, 0, h => absurd h (by simp)
  | a :: l, n + 1, h => wNth_none l n (by simpa using h)
theorem wOb_lt {n c : Nat} (h : wOb n = c + 1) : n < 150 := by
  rcases Nat.lt_or_ge n 150 with q | q
  · exact q
  · unfold wOb at h
    rw [wNth_none wTab n q] at h
    cases h
theorem wAk_lt {n c : Nat} (h : wAk n = c + 1) : n < 150 := by
  rcases Nat.lt_or_ge n 150 with q | q
  · exact q
  · unfold wAk at h
    rw [wNth_none wTab n q] at h
    cases h
theorem wOA : ∀ n, n < 150 → (wOb n = 0 ∨ wAk n = 0) ∧ wOb n ≤ 12 ∧ wAk n ≤ 5 ∧ wAl n < 2147483648 := by decide +kernel
def fvl (ρ : Nat → Nat) (t : FieldType) (r : Nat) (x : Int) : Value := match t with
  | .int => .int (Int32.ofInt x)
  | .boolean => .int (Int32.ofInt x)
  | .long => .long (Int64.ofInt x)
  | _ => .ref (ρ r)
theorem fvl0 {ρ : Nat → Nat} {t : FieldType} {r : Nat} {x : Int} (h : kdOf t = 0) : t = .int ∧ fvl ρ t r x = .int (Int32.ofInt x) := by cases t <;> first | exact ⟨rfl, rfl⟩ | cases h
theorem fvl1 {ρ : Nat → Nat} {t : FieldType} {r : Nat} {x : Int} (h : kdOf t = 1) : t = .long ∧ fvl ρ t r x = .long (Int64.ofInt x) := by cases t <;> first | exact ⟨rfl, rfl⟩ | cases h
theorem fvl2 {ρ : Nat → Nat} {t : FieldType} {r : Nat} {x : Int} (h : kdOf t = 2) : t = .boolean ∧ fvl ρ t r x = .int (Int32.ofInt x) := by cases t <;> first | exact ⟨rfl, rfl⟩ | cases h
theorem fvl3 {ρ : Nat → Nat} {t : FieldType} {r : Nat} {x : Int} {c : Nat} (h : c + 3 = kdOf t) : fvl ρ t r x = .ref (ρ r) := by
  cases t <;> first | rfl | (simp only [kdOf] at h; omega)
def wArr (ρ : Nat → Nat) (M : Mem) (n : Nat) : (Nat → Int32) ⊕ (Nat → Int64) ⊕ (Nat → UInt32) ⊕ (Nat → UInt64) ⊕ (Nat → Option Nat) := match wAk n with
  | 1 => .inl fun j => Int32.ofInt (M n j)
  | 2 => .inr (.inl fun j => Int64.ofInt (M n j))
  | _ => .inr (.inr (.inr (.inr fun j => some (ρ (wRa n j)))))
def wFs (ρ : Nat → Nat) (M : Mem) (c n : Nat) : List Value := (List.range (gN c)).map fun k => fvl ρ (gTy c k) (wRf c n k) (M n k)
def wCell (ρ : Nat → Nat) (cA : Nat → ClassId) (M : Mem) (n : Nat) : va_E := match wOb n with
  | 0 => .inl (cA (wAk n), wAl n, wArr ρ M n)
  | c + 1 => .inr (c, wFs ρ M c n)
def wWs (ρ : Nat → Nat) (cA : Nat → ClassId) (M : Mem) : va_W := (List.range 150).map fun n => (ρ n, wCell ρ cA M n)
theorem wWs_at {ρ : Nat → Nat} {cA : Nat → ClassId} {M : Mem} {n : Nat} (h : n < 150) : (wWs ρ cA M)[n]? = some (ρ n, wCell ρ cA M n) := by
  simp [wWs, h]
theorem wWs_ob {ρ : Nat → Nat} {cA : Nat → ClassId} {M : Mem} {n c : Nat} (h : wOb n = c + 1) : (wWs ρ cA M)[n]? = some (ρ n, .inr (c, wFs ρ M c n)) := by
  rw [wWs_at (wOb_lt h)]
  unfold wCell
  rw [h]
theorem wOb_ak {n k : Nat} (h : wAk n = k + 1) : wOb n = 0 := by
  rcases (wOA n (wAk_lt h)).1 with q | q
  · exact q
  · omega
theorem wWs_ar {ρ : Nat → Nat} {cA : Nat → ClassId} {M : Mem} {n k : Nat} (h : wAk n = k + 1) : (wWs ρ cA M)[n]? = some (ρ n, .inl (cA (k + 1), wAl n, wArr ρ M n)) := by
  rw [wWs_at (wAk_lt h)]
  unfold wCell
  rw [wOb_ak h, h]
theorem sm_ne {M : Mem} {a b : Nat} {f : Nat → Int} (h : b ≠ a) : sm M a f b = M b := if_neg h
theorem sm_self {M : Mem} {a : Nat} {f : Nat → Int} : sm M a f a = f := if_pos rfl
theorem wCell_ne {ρ : Nat → Nat} {cA : Nat → ClassId} {M : Mem} {n b : Nat} {f : Nat → Int} (h : b ≠ n) : wCell ρ cA (sm M n f) b = wCell ρ cA M b := by
  unfold wCell wArr wFs
  rw [sm_ne h]
theorem wWs_set {ρ : Nat → Nat} {cA : Nat → ClassId} {M : Mem} {n : Nat} {f : Nat → Int} {e : va_E} (hn : n < 150) (he : wCell ρ cA (sm M n f) n = e) : (wWs ρ cA M).set n (ρ n, e) = wWs ρ cA (sm M n f) := by
  apply List.ext_getElem?
  intro j
  by_cases hj : j = n
  · subst hj
    rw [List.getElem?_set_self (by simp [wWs]; exact hn), wWs_at hn, he]
  · rw [List.getElem?_set_ne (Ne.symm hj)]
    by_cases h : j < 150
    · rw [wWs_at h, wWs_at h, wCell_ne hj]
    · simp [wWs, h]
theorem wFs_at {ρ : Nat → Nat} {M : Mem} {c n a : Nat} (h : a < gN c) : (wFs ρ M c n)[a]? = some (fvl ρ (gTy c a) (wRf c n a) (M n a)) := by
  simp [wFs, h]
theorem wFs_set {ρ : Nat → Nat} {M : Mem} {c n a : Nat} {x : Int} (h : a < gN c) : (wFs ρ M c n).set a (fvl ρ (gTy c a) (wRf c n a) x) = wFs ρ (upd2 M n a x) c n := by
  apply List.ext_getElem?
  intro j
  by_cases hj : j = a
  · subst hj
    rw [List.getElem?_set_self (by simp [wFs]; exact h), wFs_at h]
    unfold upd2
    rw [sm_self]
    simp [sr]
  · rw [List.getElem?_set_ne (Ne.symm hj)]
    by_cases hl : j < gN c
    · rw [wFs_at hl, wFs_at hl]
      unfold upd2
      rw [sm_self]
      simp [sr, hj]
    · simp [wFs, hl]
theorem gCl_at : ∀ b, b < 12 → gCl[b]? = some (clR b, gT b, gN b)
  | 0, _ => rfl
  | 1, _ => rfl
  | 2, _ => rfl
  | 3, _ => rfl
  | 4, _ => rfl
  | 5, _ => rfl
  | 6, _ => rfl
  | 7, _ => rfl
  | 8, _ => rfl
  | 9, _ => rfl
  | 10, _ => rfl
  | 11, _ => rfl
  | n + 12, h => absurd h (by omega)
theorem gTy_ok : ∀ b, b < 12 → ∀ k, k < gN b → parseFieldDescriptor (gT b k).2.2.1 = some (gTy b k)
  | 0, _ => tyX0_ok
  | 1, _ => tyX1_ok
  | 2, _ => tyX2_ok
  | 3, _ => tyX3_ok
  | 4, _ => tyX4_ok
  | 5, _ => tyX5_ok
  | 6, _ => tyX6_ok
  | 7, _ => tyX7_ok
  | 8, _ => tyX8_ok
  | 9, _ => tyX9_ok
  | 10, _ => tyX10_ok
  | 11, _ => tyX11_ok
  | n + 12, h => absurd h (by omega)
theorem gNm_ok : ∀ b, b < 12 → ∀ x, x < gN b → ∀ y, y < gN b → x ≠ y → (gT b x).2.1 ≠ (gT b y).2.1
  | 0, _ => nmX0
  | 1, _ => nmX1
  | 2, _ => nmX2
  | 3, _ => nmX3
  | 4, _ => nmX4
  | 5, _ => nmX5
  | 6, _ => nmX6
  | 7, _ => nmX7
  | 8, _ => nmX8
  | 9, _ => nmX9
  | 10, _ => nmX10
  | 11, _ => nmX11
  | n + 12, h => absurd h (by omega)
/-- the good words of the tables -/
def LW : List Cond := lw_tbl.filter goodWord
theorem LW_mem {w : Cond} (h1 : w ∈ lw_tbl) (h2 : goodWord w = true) : w ∈ LW := List.mem_filter.mpr ⟨h1, h2⟩
theorem LW_good : ∀ w ∈ LW, goodWord w = true := fun w h => (List.mem_filter.mp h).2
