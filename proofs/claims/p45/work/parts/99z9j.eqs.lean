/-! Equations over a set of states: both sides' answers. -/
/-- the cells: base less parts; behind the last column the right side -/
def eN (b : Int) (A : Nat → Nat → Int) (s n : Nat) (q : Int) (a c : Nat) : Int := if c = cnt s n then (if q = -1 then b else A (sel s n a) q.toNat) else (if a = c then b else 0) - A (sel s n a) (sel s n c)
def eNQ (b : Int) (A : Nat → Nat → Int) (s n : Nat) (q : Int) (a c : Nat) : Rat := ((eN b A s n q a c : Int) : Rat)
def pQ (b : Int) (A : Nat → Nat → Int) (i j : Nat) : Rat := ((A i j : Int) : Rat) / ((b : Int) : Rat)
theorem sumQ_cast {f : Nat → Int} : ∀ m, sumQ (fun j => ((f j : Int) : Rat)) m = ((sumT f m : Int) : Rat) := by
  intro m
  induction m with
  | zero => rfl
  | succ m ih => show sumQ (fun j => ((f j : Int) : Rat)) m + _ = ((sumT f m + f m : Int) : Rat); rw [ih, Rat.intCast_add]
theorem cast_pos {b : Int} (h : 0 < b) : (0 : Rat) < ((b : Int) : Rat) := Rat.intCast_lt_intCast.mpr h
theorem cast_nn {b : Int} (h : 0 ≤ b) : (0 : Rat) ≤ ((b : Int) : Rat) := Rat.intCast_nonneg.mpr h
theorem sumQ_div {f : Nat → Rat} {b : Rat} (m : Nat) : sumQ (fun j => f j / b) m = sumQ f m / b := by
  induction m with
  | zero => show (0 : Rat) = 0 / b; grind
  | succ m ih => show sumQ (fun j => f j / b) m + f m / b = (sumQ f m + f m) / b; rw [ih]; grind
theorem pQ_stoch {n : Nat} {b : Int} {A : Nat → Nat → Int} (hO : cOk n b A) (hr : ∀ i, i < n → rowS A i n ≤ b) : Stoch (pQ b A) n := by
  have hb := hO.2.1
  have hbp : (0 : Rat) < ((b : Int) : Rat) := cast_pos (by omega)
  have h7 := hO.1
  refine ⟨fun i j hi hj => ?_, fun i hi => ?_⟩
  · have h := cast_nn (hO.2.2.1 i j (by omega) (by omega)).1
    show 0 ≤ ((A i j : Int) : Rat) / ((b : Int) : Rat)
    rw [Rat.div_def]
    exact Rat.mul_nonneg h (Rat.le_of_lt (Rat.inv_pos.mpr hbp))
  · show sumQ (fun j => ((A i j : Int) : Rat) / ((b : Int) : Rat)) n ≤ 1
    rw [sumQ_div, sumQ_cast, sumT_row (A := A) (i := i) n fun _ _ => rfl]
    have h1 : ((rowS A i n : Int) : Rat) ≤ ((b : Int) : Rat) := Rat.intCast_le_intCast.mpr (hr i hi)
    generalize ((rowS A i n : Int) : Rat) = u at *
    generalize ((b : Int) : Rat) = v at *
    refine Rat.not_lt.mp fun z => ?_
    have := (Rat.lt_div_iff hbp).mp z
    grind
theorem pQ_edge {n : Nat} {b : Int} {A : Nat → Nat → Int} (hb : 0 < b) {w : Int} : ∀ k l, cE n A w k l → k < n ∧ l < n ∧ 0 < pQ b A k l := by
  intro k l h
  refine ⟨h.2.1, h.2.2.1, ?_⟩
  show 0 < ((A k l : Int) : Rat) / ((b : Int) : Rat)
  rw [Rat.div_def]
  exact Rat.mul_pos (cast_pos h.2.2.2) (Rat.inv_pos.mpr (cast_pos hb))
/-- each member leads to w, which is none -/
theorem eNQ_Mx {n s w : Nat} {b q : Int} {A : Nat → Nat → Int} (hO : cOk n b A) (hr : ∀ i, i < n → rowS A i n ≤ b) (hw : s.testBit w = false) (hl : ∀ i, i < n → s.testBit i = true → Rch (cE n A (-1)) i w) : ∃ x : Nat → Rat, (∀ c, c < cnt s n → 0 < x c) ∧ Mx (eNQ b A s n q) (cnt s n) x := by
  have hb := hO.2.1
  have hbp : (0 : Rat) < ((b : Int) : Rat) := cast_pos (by omega)
  have hS := pQ_stoch hO hr
  obtain ⟨x, x1, x2⟩ := weigh (mb := bt s) hS fun i hi hm => Go.rch (E := cE n A (-1)) hS (pQ_edge (by omega)) hm (hl i hi hm) hw
  refine ⟨fun c => x (sel s n c), fun c hc => x1 _ (sel_in hc).1, fun a c ha hc hac => ?_, fun a ha => ?_⟩
  · show ((eN b A s n q a c : Int) : Rat) ≤ 0
    unfold eN
    rw [if_neg (by omega), if_neg hac]
    have h7 := hO.1
    have h := (hO.2.2.1 (sel s n a) (sel s n c) (by have := (sel_in ha).1; omega) (by have := (sel_in hc).1; omega)).1
    exact Rat.intCast_le_intCast.mpr (show 0 - A (sel s n a) (sel s n c) ≤ (0 : Int) by omega)
  · obtain ⟨a1, a2, a3⟩ := sel_in ha
    have h := x2 _ a1 a2
    have e1 := sum_sel (s := s) (f := fun j => pQ b A (sel s n a) j * x j) n
    have e2 : sumQ (fun c => eNQ b A s n q a c * x (sel s n c)) (cnt s n) = ((b : Int) : Rat) * (x (sel s n a) - sumQ (fun c => pQ b A (sel s n a) (sel s n c) * x (sel s n c)) (cnt s n)) := by
      have e3 : sumQ (fun c => eNQ b A s n q a c * x (sel s n c)) (cnt s n) = sumQ (fun c => (if c = a then ((b : Int) : Rat) * x (sel s n a) else 0) - ((b : Int) : Rat) * (pQ b A (sel s n a) (sel s n c) * x (sel s n c))) (cnt s n) := by
        refine sumQ_congr _ fun c hc => ?_
        show ((eN b A s n q a c : Int) : Rat) * x (sel s n c) = _ - ((b : Int) : Rat) * (((A (sel s n a) (sel s n c) : Int) : Rat) / ((b : Int) : Rat) * x (sel s n c))
        unfold eN
        rw [if_neg (by omega)]
        by_cases e : a = c
        · subst e
          rw [if_pos rfl, if_pos rfl, Rat.intCast_sub]
          generalize ((A (sel s n a) (sel s n a) : Int) : Rat) = u at *
          generalize ((b : Int) : Rat) = v at *
          generalize x (sel s n a) = y at *
          grind
        · rw [if_neg e, if_neg (fun z => e z.symm), Rat.intCast_sub, show ((0 : Int) : Rat) = 0 from rfl]
          generalize ((A (sel s n a) (sel s n c) : Int) : Rat) = u at *
          generalize ((b : Int) : Rat) = v at *
          generalize x (sel s n c) = y at *
          grind
      rw [e3, sumQ_lin, sumQ_single (r := a) _ ha (fun c _ hn => if_neg hn), if_pos rfl]
      grind
    show 0 < sumQ (fun c => eNQ b A s n q a c * x (sel s n c)) (cnt s n)
    rw [e2, e1]
    refine Rat.mul_pos hbp ?_
    have h' : sumQ (fun j => if s.testBit j = true then pQ b A (sel s n a) j * x j else 0) n < x (sel s n a) := h
    grind
theorem eNQ_rhs {n s : Nat} {b q : Int} {A : Nat → Nat → Int} (hO : cOk n b A) (hq : q = -1 ∨ (0 ≤ q ∧ q < 7)) : ∀ a, a < cnt s n → 0 ≤ eNQ b A s n q a (cnt s n) := by
  intro a ha
  have hb := hO.2.1
  have h7 := hO.1
  refine cast_nn ?_
  unfold eN
  rw [if_pos rfl]
  have h := (sel_in ha).1
  split
  · omega
  · exact (hO.2.2.1 _ _ (by omega) (by omega)).1
theorem eN_r {n s : Nat} {b q : Int} {A : Nat → Nat → Int} (hO : cOk n b A) (hq : q = -1 ∨ (0 ≤ q ∧ q < 7)) {a c : Nat} (ha : a < cnt s n) (hc : c ≤ cnt s n) : -100 ≤ eN b A s n q a c ∧ eN b A s n q a c ≤ 100 := by
  have hb := hO.2.1
  have h7 := hO.1
  have h1 := (sel_in ha).1
  unfold eN
  by_cases e : c = cnt s n
  · rw [if_pos e]
    split
    · omega
    · have := hO.2.2.1 (sel s n a) q.toNat (by omega) (by omega)
      omega
  · rw [if_neg e]
    have h2 := (sel_in (show c < cnt s n by omega)).1
    have := hO.2.2.1 (sel s n a) (sel s n c) (by omega) (by omega)
    split <;> omega
/-- what both answer -/
def solQ (b : Int) (A : Nat → Nat → Int) (s n : Nat) (q : Int) (f : Nat) : Rat := ansQ (eNQ b A s n q) (cnt s n) (cnt s f)
theorem pow_ne {D : Rat} (h : D ≠ 0) : ∀ m : Nat, D ^ m ≠ 0 := by
  intro m
  induction m with
  | zero => rw [Rat.pow_zero]; decide
  | succ m ih =>
    rw [Rat.pow_succ]
    intro z
    rcases Rat.mul_eq_zero.mp z with e | e
    · exact ih e
    · exact h e
theorem wed_scale {m : Nat} {T N : Nat → Nat → Rat} {D : Rat} (hD : D ≠ 0) (h : ∀ a c, a < m → c ≤ m → T a c * D = N a c) {i : Nat} (hi : i < m) : ansQ T m i = ansQ N m i := by
  have e1 : wed m (colR T (fc i m)) m (full m) * D ^ m = wed m (colR N (fc i m)) m (full m) := by
    rw [wed_D]
    refine congrFun (wed_cells m fun a c ha hc => ?_) _
    show T a (if c = i then m else c) * D = N a (if c = i then m else c)
    refine h a _ ha ?_
    split <;> omega
  have e2 : Dd T m * D ^ m = Dd N m := by
    show wed m T m (full m) * D ^ m = _
    rw [wed_D]
    exact congrFun (wed_cells m fun a c ha hc => h a c ha (by omega)) _
  unfold ansQ
  rw [← e1, ← e2]
  have hp := pow_ne hD m
  generalize wed m (colR T (fc i m)) m (full m) = u at *
  generalize Dd T m = v at *
  generalize D ^ m = w at *
  by_cases e : v = 0
  · rw [e]; grind
  · grind
/-! The class solves. -/
theorem dv_eN {n s f a c : Nat} {b q : Int} {A : Nat → Nat → Int} (hb : s.testBit f = true) (hf : f < n) (ha : a < cnt s n) (hc : c < cnt s n) : dv b A (f : Int) q (sel s n a) (sel s n c) = eN b A s n q a (fc (cnt s f) (cnt s n) c) := by
  obtain ⟨c1, c2, c3⟩ := sel_in hc
  unfold dv eN
  show _ = if (if c = cnt s f then cnt s n else c) = cnt s n then _ else _
  by_cases e : sel s n c = f
  · rw [if_pos (show ((sel s n c : Nat) : Int) = (f : Int) by omega), if_pos (show c = cnt s f by rw [← e, c3]), if_pos rfl]
  · have e2 : c ≠ cnt s f := fun z => e (by rw [z]; exact sel_cnt hb n hf)
    rw [if_neg (show ¬ ((sel s n c : Nat) : Int) = (f : Int) by omega), if_neg (show ¬ (if c = cnt s f then cnt s n else c) = cnt s n by rw [if_neg e2]; omega), show fc (cnt s f) (cnt s n) c = c from if_neg e2]
    by_cases e3 : a = c
    · rw [if_pos e3, if_pos (by rw [e3])]
    · rw [if_neg e3, if_neg (fun z => e3 (sel_inj ha hc z))]
theorem dv_eN0 {n s a c : Nat} {b q : Int} {A : Nat → Nat → Int} (ha : a < cnt s n) (hc : c < cnt s n) : dv b A (-1) (-1) (sel s n a) (sel s n c) = eN b A s n q a c := by
  unfold dv eN
  rw [if_neg (show ¬ ((sel s n c : Nat) : Int) = -1 by omega), if_neg (show ¬ c = cnt s n by omega)]
  by_cases e3 : a = c
  · rw [if_pos e3, if_pos (by rw [e3])]
  · rw [if_neg e3, if_neg (fun z => e3 (sel_inj ha hc z))]
theorem p600 : (600 : Int) ^ 6 < 9223372036854775808 := by decide +kernel
/-- whole numbers that the class holds -/
theorem det_r {m : Nat} {R : Nat → Nat → Rat} {v : Int} {S : Nat → Bool} (hm : m ≤ 6) (hR : ∀ a c, a < m → c < m → Wh (R a c) 100) (hv : ((v : Int) : Rat) = wed m R m S) : -9223372036854775808 < v ∧ v < 9223372036854775808 := by
  obtain ⟨z, z1, z2, z3⟩ := wed_whole (a := 100) (by decide) m hR S
  rw [← hv] at z1
  have e := Rat.intCast_inj.mp z1
  have b1 : ((m : Int) * 100) ^ m ≤ 600 ^ m := pw_base (by omega) (by omega) m
  have b2 : (600 : Int) ^ m ≤ 600 ^ 6 := pw_mono (by decide) hm
  have := p600
  omega
theorem AZ.res {M M' : Mem} {l : List Nat} {q : Rat} (h : AZ M) (hf : Fr l M M') (hc : CF M' q) (hl : ∀ r, r < 54 → r % 2 = 0 → r + 1 ∈ l → r = 0 ∨ r = 2) : AZ M' := by
  refine h.fr hf fun r hr hm => ?_
  obtain ⟨r1, r2⟩ := hr
  rcases hl r r1 r2 hm with rfl | rfl
  · exact hc.rz0
  · exact hc.rz2
abbrev solC : List Nat := [0, 1, 2, 3, 74, 75, 76, 77, 78, 79, 80]
theorem AZ.sol {M M' : Mem} {q : Rat} (h : AZ M) (hf : Fr solC M M') (hc : CF M' q) : AZ M' := h.res hf hc fun r h1 h2 h3 => by
  simp at h3
  omega
theorem mkRat_ratio {x y : Nat} : mkRat (x : Int) y = (((x : Nat) : Int) : Rat) / (((y : Nat) : Int) : Rat) := by
  rw [Rat.mkRat_eq_div]
  rfl
theorem s_Csolve {d : Nat} {M : Mem} {n s w f : Nat} {b q : Int} {A : Nat → Nat → Int} (hC : CC M n b A) (hO : cOk n b A) (hr : ∀ i, i < n → rowS A i n ≤ b) (hz : AZ M) (hs : s < 128) (h6 : cnt s n ≤ 6) (hf : f < n) (hsf : s.testBit f = true) (hw : s.testBit w = false) (hl : ∀ i, i < n → s.testBit i = true → Rch (cE n A (-1)) i w) (hq : q = -1 ∨ (0 ≤ q ∧ q < 7)) :
    Post (d + 4) cC_solve [oC, .inl (s : Int), .inl (f : Int), .inl q, oB 90] M (fun v M' => Fr solC M M' ∧ AZ M' ∧ CF M' (solQ b A s n q f) ∧ v = (solQ b A s n q f).num.sign) := by
  intro Q hQ
  have h7 := hO.1
  have hb := hO.2.1
  obtain ⟨x, x1, x2⟩ := eNQ_Mx (q := q) hO hr hw hl
  have hcf : cnt s f < cnt s n := cnt_k_lt hf hsf
  have Dp : 0 < Dd (eNQ b A s n q) (cnt s n) := (x2.go x1 _ (Nat.le_refl _)).2 _ (Nat.le_refl _)
  have Np := x2.nn x1 hcf (eNQ_rhs hO hq)
  refine e_C_solve (b_C_solve_0 ?_)
  refine (s_detOver (d := d) (s := s) (p := (f : Int)) (q := q) hC hO hs h6 ⟨by omega, by omega⟩ hq).cal fun v1 M1 hM1 => ?_
  obtain ⟨f1, R1, g1, k1⟩ := hM1
  refine (s_detOver (d := d) (s := s) (p := -1) (q := -1) (hC.sq f1) hO hs h6 ⟨by decide, by decide⟩ (Or.inl rfl)).cal fun v2 M2 hM2 => ?_
  obtain ⟨f2, R2, g2, k2⟩ := hM2
  have c1 : ∀ a c, a < cnt s n → c < cnt s n → R1 a c = colR (eNQ b A s n q) (fc (cnt s f) (cnt s n)) a c := fun a c ha hc => by
    obtain ⟨a1, a2, a3⟩ := sel_in ha
    obtain ⟨e1, e2, e3⟩ := sel_in hc
    have := g1 _ _ a1 e1 a2 e2
    rw [a3, e3, dv_eN hsf hf ha hc] at this
    exact this
  have c2 : ∀ a c, a < cnt s n → c < cnt s n → R2 a c = eNQ b A s n q a c := fun a c ha hc => by
    obtain ⟨a1, a2, a3⟩ := sel_in ha
    obtain ⟨e1, e2, e3⟩ := sel_in hc
    have := g2 _ _ a1 e1 a2 e2
    rw [a3, e3, dv_eN0 (q := q) ha hc] at this
    exact this
  rw [wed_cells _ c1] at k1
  rw [wed_cells _ c2] at k2
  have r1 := det_r h6 (fun a c ha hc => ⟨_, rfl, eN_r hO hq ha (show fc (cnt s f) (cnt s n) c ≤ cnt s n by show (if c = cnt s f then cnt s n else c) ≤ cnt s n; split <;> omega)⟩) k1
  have r2 := det_r h6 (fun a c ha hc => ⟨_, rfl, eN_r hO hq ha (show c ≤ cnt s n by omega)⟩) k2
  rw [← k1] at Np
  have Dp' : (0 : Rat) < ((v2 : Int) : Rat) := by rw [k2]; exact Dp
  have v1n : 0 ≤ v1 := Rat.intCast_nonneg.mp Np
  have v2p : 0 < v2 := Rat.intCast_lt_intCast.mp Dp'
  obtain ⟨X, rfl⟩ : ∃ X : Nat, v1 = X := ⟨v1.toNat, by omega⟩
  obtain ⟨Y, rfl⟩ : ∃ Y : Nat, v2 = Y := ⟨v2.toNat, by omega⟩
  have esol : mkRat (X : Int) Y = solQ b A s n q f := by
    rw [mkRat_ratio, k1, k2]
    rfl
  rw [show max (X : Int) 0 = (X : Int) by omega, show max (Y : Int) 1 = (Y : Int) by omega]
  refine ⟨⟨by omega, by omega⟩, ⟨by omega, by omega⟩, ?_⟩
  have z2 : AZ M2 := hz.fr (f1.tr f2) fun r hr hm => by
    obtain ⟨r1, r2⟩ := hr
    simp at hm
    omega
  refine (s_setLongsQ (d := d) (x := X) (y := Y) (by omega) (by omega) (by omega) (z2 0 (bIr (by decide) rfl)) (z2 2 (bIr (by decide) rfl))).cal fun v3 M3 hM3 => ?_
  obtain ⟨f3, g3, e3⟩ := hM3
  rw [esol] at g3 e3
  have F : Fr solC M M3 := ((f1.mono (by simp)).tr (f2.mono (by simp))).tr (f3.mono (by simp))
  exact hQ _ _ ⟨F, hz.sol F g3, g3, e3⟩
