/-! The law's machine on the machine: values, locals, cells. -/
def lpv (B hq : Nat) (sg : Nat → Nat) : PV → Value
  | .inl x => .int (Int32.ofInt x)
  | .inr (.inl x) => .long (Int64.ofInt x)
  | .inr (.inr (.inl 0)) => .null
  | .inr (.inr (.inl (n + 1))) => .ref (B + n)
  | .inr (.inr (.inr 0)) => .ref hq
  | .inr (.inr (.inr (k + 1))) => .ref (sg (k + 1))
theorem lpv_cat1 {B hq : Nat} {sg : Nat → Nat} {v : PV} (h : isLg v = false) : (lpv B hq sg v).category = 1 := by
  rcases v with x | x | (_ | x) | (_ | x) <;> first | rfl | cases h
theorem lpv_cat2 {B hq : Nat} {sg : Nat → Nat} {v : PV} (h : (lpv B hq sg v).category = 2) : isLg v = true := by
  rcases v with x | x | (_ | x) | (_ | x) <;> first | rfl | cases h
def lsg (cv : PV → Value) : Nat → PL → List (Nat × Value)
  | _, [] => []
  | k, none :: l => lsg cv (k + 1) l
  | k, some v :: l => (k, cv v) :: lsg cv (k + 1) l
theorem mem_lsg {cv : PV → Value} {j : Nat} {w : Value} : ∀ (l : PL) (k : Nat), (j, w) ∈ lsg cv k l ↔ ∃ (i : Nat) (v : PV), j = k + i ∧ nth l i = some (some v) ∧ w = cv v
  | [], k => by simp [lsg, nth]
  | none :: l, k => by
    unfold lsg
    rw [mem_lsg l (k + 1)]
    constructor
    · rintro ⟨i, v, h1, h2, h3⟩
      exact ⟨i + 1, v, by omega, h2, h3⟩
    · rintro ⟨i, v, h1, h2, h3⟩
      cases i with
      | zero => cases h2
      | succ i => exact ⟨i, v, by omega, h2, h3⟩
  | some u :: l, k => by
    unfold lsg
    rw [List.mem_cons, mem_lsg l (k + 1)]
    constructor
    · rintro (h | ⟨i, v, h1, h2, h3⟩)
      · cases h
        exact ⟨0, u, rfl, rfl, rfl⟩
      · exact ⟨i + 1, v, by omega, h2, h3⟩
    · rintro ⟨i, v, h1, h2, h3⟩
      cases i with
      | zero =>
        cases h2
        subst h1; subst h3
        exact Or.inl rfl
      | succ i => exact Or.inr ⟨i, v, by omega, h2, h3⟩
abbrev LG (cv : PV → Value) (ls : Array Slot) (nL : Nat) (l : PL) : Prop := lv_has ls nL (lsg cv 0 l)
section LGS
variable {cv : PV → Value} {ls : Array Slot} {nL : Nat} {l : PL} {i : Nat} {v : PV}
theorem LG.at' (h : LG cv ls nL l) (hv : nth l i = some (some v)) : ls[i]? = some (.val (cv v)) :=
  h.2.2 (i, cv v) ((mem_lsg l 0).mpr ⟨i, v, by omega, hv, rfl⟩)
theorem LG.st1 (hcv : ∀ u, (cv u).category = 2 → isLg u = true) (h : lv_has ls nL ((i, cv v) :: (lsg cv 0 l).filter (fun q => !(q.1 == i) && !(q.1 + 1 == i && q.2.category == 2)))) : LG cv ls nL (stN i v l) := by
  refine ⟨h.1, h.2.1, fun q hq => h.2.2 q ?_⟩
  obtain ⟨j, w⟩ := q
  obtain ⟨i2, u, h1, h2, h3⟩ := (mem_lsg _ 0).mp hq
  have h1 : j = i2 := by omega
  subst h1; subst h3
  rcases nth_stN i v l j u h2 with ⟨e1, e2⟩ | ⟨e1, e2, e3⟩
  · subst e1; subst e2
    exact List.mem_cons_self
  · refine List.mem_cons_of_mem _ (List.mem_filter.mpr ⟨(mem_lsg l 0).mpr ⟨j, u, by omega, e2, rfl⟩, ?_⟩)
    rw [Bool.and_eq_true]
    refine ⟨by simp [e1], ?_⟩
    by_cases hc : j + 1 = i
    · have h5 : (cv u).category ≠ 2 := fun z => e3 ⟨hc, hcv _ z⟩
      simp [h5]
    · simp [hc]
theorem LG.st2 (hcv : ∀ u, (cv u).category = 2 → isLg u = true) (h : lv_has ls nL ((i, cv v) :: (lsg cv 0 l).filter (fun q => !(q.1 == i) && (!(q.1 == i + 1) && !(q.1 + 1 == i && q.2.category == 2))))) : LG cv ls nL (st2N i v l) := by
  refine ⟨h.1, h.2.1, fun q hq => h.2.2 q ?_⟩
  obtain ⟨j, w⟩ := q
  obtain ⟨i2, u, h1, h2, h3⟩ := (mem_lsg _ 0).mp hq
  have h1 : j = i2 := by omega
  subst h1; subst h3
  rcases nth_st2N i v l j u h2 with ⟨e1, e2⟩ | ⟨e1, e0, e2, e3⟩
  · subst e1; subst e2
    exact List.mem_cons_self
  · refine List.mem_cons_of_mem _ (List.mem_filter.mpr ⟨(mem_lsg l 0).mpr ⟨j, u, by omega, e2, rfl⟩, ?_⟩)
    rw [Bool.and_eq_true, Bool.and_eq_true]
    refine ⟨by simp [e1], by simp [e0], ?_⟩
    by_cases hc : j + 1 = i
    · have h5 : (cv u).category ≠ 2 := fun z => e3 ⟨hc, hcv _ z⟩
      simp [h5]
    · simp [hc]
end LGS
theorem lsum_cat {B hq : Nat} {sg : Nat → Nat} : ∀ st : PS, ((st.map (lpv B hq sg)).map fun v => v.category).sum = wsum st
  | [] => rfl
  | .inl _ :: r => by
    show 1 + ((r.map (lpv B hq sg)).map fun v => v.category).sum = wsum r + 1
    rw [lsum_cat r]; omega
  | .inr (.inl _) :: r => by
    show 2 + ((r.map (lpv B hq sg)).map fun v => v.category).sum = wsum r + 2
    rw [lsum_cat r]; omega
  | .inr (.inr (.inl n)) :: r => by
    have : (lpv B hq sg (.inr (.inr (.inl n)))).category = 1 := lpv_cat1 rfl
    show (lpv B hq sg (.inr (.inr (.inl n)))).category + ((r.map (lpv B hq sg)).map fun v => v.category).sum = wsum r + 1
    rw [lsum_cat r, this]; omega
  | .inr (.inr (.inr n)) :: r => by
    have : (lpv B hq sg (.inr (.inr (.inr n)))).category = 1 := lpv_cat1 rfl
    show (lpv B hq sg (.inr (.inr (.inr n)))).category + ((r.map (lpv B hq sg)).map fun v => v.category).sum = wsum r + 1
    rw [lsum_cat r, this]; omega
/-- texts in the locals are known ones -/
def txOk (J : Nat → Prop) (lo : PL) : Prop := ∀ i k : Nat, nth lo i = some (some (.inr (.inr (.inr (k + 1))))) → J (k + 1)
theorem txOk.st1 {J : Nat → Prop} {lo : PL} {i : Nat} {v : PV} (h : txOk J lo) (hv : ∀ k, v ≠ .inr (.inr (.inr (k + 1)))) : txOk J (stN i v lo) := fun j k hj => by
  rcases nth_stN i v lo j _ hj with ⟨-, e⟩ | ⟨-, e, -⟩
  · exact absurd e.symm (hv k)
  · exact h j k e
theorem txOk.st2 {J : Nat → Prop} {lo : PL} {i : Nat} {v : PV} (h : txOk J lo) (hv : ∀ k, v ≠ .inr (.inr (.inr (k + 1)))) : txOk J (st2N i v lo) := fun j k hj => by
  rcases nth_st2N i v lo j _ hj with ⟨-, e⟩ | ⟨-, -, e, -⟩
  · exact absurd e.symm (hv k)
  · exact h j k e
/-! cells -/
def kTy (k : Nat) : FieldType := match k with
  | 1 => .int
  | 2 => .long
  | 3 => .boolean
  | 4 => .array .int
  | 5 => .array .boolean
  | 6 => .array .long
  | _ => .array (.array .long)
def tysW (cW : Nat → ClassId) : List (ClassId × FieldType) := [(cW 1, .int), (cW 2, .long), (cW 3, .boolean), (cW 4, .array .int), (cW 5, .array .boolean), (cW 6, .array .long), (cW 7, .array (.array .long))]
theorem tysW_at {cW : Nat → ClassId} : ∀ k, 1 ≤ k → k ≤ 7 → (tysW cW)[k - 1]? = some (cW k, kTy k)
  | 0, h, _ => absurd h (by decide)
  | 1, _, _ => rfl
  | 2, _, _ => rfl
  | 3, _, _ => rfl
  | 4, _, _ => rfl
  | 5, _, _ => rfl
  | 6, _, _ => rfl
  | 7, _, _ => rfl
  | n + 8, _, h => absurd h (by omega)
def rfB (B : Nat) (v : Int) : Option Nat := match v.toNat with
  | 0 => none
  | n + 1 => some (B + n)
def lAr (B k : Nat) (f : Nat → Int) : (Nat → Int32) ⊕ (Nat → Int64) ⊕ (Nat → UInt32) ⊕ (Nat → UInt64) ⊕ (Nat → Option Nat) := match k with
  | 1 => .inl fun j => Int32.ofInt (f j)
  | 2 => .inr (.inl fun j => Int64.ofInt (f j))
  | 3 => .inl fun j => Int32.ofInt (f j)
  | _ => .inr (.inr (.inr (.inr fun j => rfB B (f j))))
def lCell (B : Nat) (cW : Nat → ClassId) (x : LCel) : va_E := .inl (cW x.1, x.2.1, lAr B x.1 x.2.2)
/-- the law's cells on the heap -/
def LH (D : va_G) (cW : Nat → ClassId) (A : Nat → Prop) (ρ : Nat → Nat) (B : Nat) (C : LMem) (H : Heap) : Prop := ∀ k, (C k).1 ≠ 0 → A (B + k) ∧ (∀ n, n < 150 → ρ n ≠ B + k) ∧ ((C k).1 ≤ 7 ∧ (C k).2.1 < 2147483648) ∧ va_at D gCl (B + k, lCell B cW (C k)) H
/-- the whole world of the law -/
def wWL (D : va_G) (cA cW : Nat → ClassId) (A : Nat → Prop) (ρ : Nat → Nat) (B : Nat) (M : Mem) (C : LMem) (H : Heap) : Prop := va_P D gCl (wWs ρ cA M) H ∧ va_D A (wWs ρ cA M) ∧ LH D cW A ρ B C H
theorem lat_kept {D : va_G} {q : Nat} {e : va_E} {H H1 : Heap} (h : va_at D gCl (q, e) H) (h1 : H1[q]? = H[q]?) : va_at D gCl (q, e) H1 := h.kept h1
theorem lat_one {D : va_G} {q : Nat} {e : va_E} {H : Heap} (h : va_at D gCl (q, e) H) : va_P D gCl [(q, e)] H := fun k x hx => by
  cases k with
  | zero => cases hx; exact h
  | succ k => simp at hx
section LHS
variable {D : va_G} {cA cW : Nat → ClassId} {A : Nat → Prop} {ρ : Nat → Nat} {B : Nat} {M : Mem} {C : LMem} {H H1 : Heap}
theorem LH.lt (h : LH D cW A ρ B C H) {k : Nat} (hk : (C k).1 ≠ 0) : B + k < H.size := (h k hk).2.2.2.lt
theorem LH.kept (h : LH D cW A ρ B C H) (hq : ∀ k, (C k).1 ≠ 0 → H1[B + k]? = H[B + k]?) : LH D cW A ρ B C H1 := fun k hk => by
  obtain ⟨h1, h2, h3, h4⟩ := h k hk
  exact ⟨h1, h2, h3, lat_kept h4 (hq k hk)⟩
theorem cst_self {q : Nat} {x : LCel} : cst C q x q = x := if_pos rfl
theorem cst_ne {q k : Nat} {x : LCel} (h : k ≠ q) : cst C q x k = C k := if_neg h
theorem LH.up (h : LH D cW A ρ B C H) {q i : Nat} {v : Int} (hq : (C q).1 ≠ 0) (oq : ∀ x : Nat, x ≠ B + q → H1[x]? = H[x]?) (he : va_at D gCl (B + q, lCell B cW ((C q).1, (C q).2.1, sr (C q).2.2 i v)) H1) : LH D cW A ρ B (cup C q i v) H1 := fun k hk => by
  unfold cup at hk ⊢
  by_cases e : k = q
  · subst e
    rw [cst_self] at hk ⊢
    obtain ⟨h1, h2, h3, h4⟩ := h k hq
    exact ⟨h1, h2, h3, he⟩
  · rw [cst_ne e] at hk ⊢
    obtain ⟨h1, h2, h3, h4⟩ := h k hk
    exact ⟨h1, h2, h3, lat_kept h4 (oq _ (by omega))⟩
theorem LH.new (h : LH D cW A ρ B C H) (hP : va_P D gCl (wWs ρ cA M) H) (hB : B ≤ H.size) (hA : A H.size) {x : LCel} (hx : x.1 ≤ 7 ∧ x.2.1 < 2147483648) (o1 : ∀ q : Nat, q < H.size → H1[q]? = H[q]?) (he : va_at D gCl (H.size, lCell B cW x) H1) : LH D cW A ρ B (cst C (H.size - B) x) H1 := fun k hk => by
  by_cases e : k = H.size - B
  · subst e
    rw [cst_self] at hk ⊢
    have e2 : B + (H.size - B) = H.size := by omega
    rw [e2]
    refine ⟨hA, fun n hn z => ?_, hx, he⟩
    have := (hP n _ (wWs_at hn)).lt
    have z : ρ n = H.size := z
    dsimp only at this
    omega
  · rw [cst_ne e] at hk ⊢
    obtain ⟨h1, h2, h3, h4⟩ := h k hk
    exact ⟨h1, h2, h3, lat_kept h4 (o1 _ h4.lt)⟩
theorem LH.free (h : LH D cW A ρ B C H) {k : Nat} (hk : H.size ≤ B + k) : (C k).1 = 0 := by
  by_cases e : (C k).1 = 0
  · exact e
  · have := h.lt e
    omega
theorem wP_off (hP : va_P D gCl (wWs ρ cA M) H) {q : Nat} (hr : ∀ n, n < 150 → ρ n ≠ q) (oq : ∀ x : Nat, x ≠ q → H1[x]? = H[x]?) : va_P D gCl (wWs ρ cA M) H1 := hP.kept fun k x hx => by
  by_cases hk : k < 150
  · rw [wWs_at hk] at hx
    cases hx
    exact oq _ (hr k hk)
  · exfalso
    rw [List.getElem?_eq_none (by simp [wWs]; omega)] at hx
    cases hx
end LHS
/-! what nobody writes, for the law -/
def AOL (ty : FieldType) (U : State) : Prop := ∃ (comp c : ClassId) (k : Class), U.vm.findClass (FieldType.array ty).toString = some comp ∧ U.vm.findClass ("[" ++ (FieldType.array ty).toString) = some c ∧ U.vm.classes[c]? = some k ∧ k.kind = .array comp (.array ty)
