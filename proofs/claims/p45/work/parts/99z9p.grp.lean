/-! Groups as such equations. -/
def isGrp (n : Nat) (E : Nat → Nat → Prop) (s : Nat) : Prop := s < 128 ∧ (∀ i, s.testBit i = true → i < n) ∧ (∃ i, s.testBit i = true) ∧ (∀ i j, s.testBit i = true → Rch E i j → j < n → s.testBit j = true) ∧ ∀ i j, s.testBit i = true → s.testBit j = true → Rch E i j
theorem isGrp.of {n i s : Nat} {E : Nat → Nat → Prop} (h : isSet n E i s) (hg : inGrp n E i) (hi : i < n) : isGrp n E s := by
  refine ⟨h.1, fun j hj => ((h.2 j).mp hj).1, ⟨i, (h.2 i).mpr ⟨hi, .refl i⟩⟩, fun j k hj hr hk => (h.2 k).mpr ⟨hk, ((h.2 j).mp hj).2.tr hr⟩, fun j k hj hk => ?_⟩
  obtain ⟨a1, a2⟩ := (h.2 j).mp hj
  obtain ⟨b1, b2⟩ := (h.2 k).mp hk
  exact (hg j a1 a2).tr b2
theorem sumQ_pre {g : Nat → Rat} {L : Nat} : ∀ m, L ≤ m → sumQ (fun c => if c < L then g c else 0) m = sumQ g L := by
  intro m
  induction m with
  | zero => intro h; rw [show L = 0 by omega]; rfl
  | succ m ih =>
    intro h
    show sumQ (fun c => if c < L then g c else 0) m + (if m < L then g m else 0) = sumQ g L
    by_cases e : L = m + 1
    · subst e
      rw [if_pos (Nat.lt_succ_self m), sumQ_congr (g := g) m fun c hc => if_pos (by omega)]
      rfl
    · rw [ih (by omega), if_neg (by omega)]; grind
theorem sel_er {n s i a : Nat} (hi : s.testBit i = true) (ha : a < cnt (s ^^^ 2 ^ i) n) : sel (s ^^^ 2 ^ i) n a = sel s n (skp (cnt s i) a) := by
  obtain ⟨a1, a2, a3⟩ := sel_in ha
  have hx := bt_xor hi
  have hb : er (bt s) i (sel (s ^^^ 2 ^ i) n a) = true := by
    rw [← hx]; exact a2
  have hne : sel (s ^^^ 2 ^ i) n a ≠ i := fun e => by rw [e, er_same] at hb; cases hb
  rw [er_ne hne] at hb
  have hc := cnt_er hi hx (sel (s ^^^ 2 ^ i) n a)
  rw [a3] at hc
  generalize sel (s ^^^ 2 ^ i) n a = j at *
  have hj : s.testBit j = true := hb
  by_cases e : i < j
  · rw [if_pos e] at hc
    have := cnt_k_lt e hi
    rw [skp_hi (show cnt s i ≤ a by omega), hc, sel_cnt hj n a1]
  · rw [if_neg e, Nat.add_zero] at hc
    have := cnt_k_lt (show j < i by omega) hj
    rw [skp_lo (show a < cnt s i by omega), hc, sel_cnt hj n a1]
theorem eNQ_off {n s : Nat} {b q : Int} {A : Nat → Nat → Int} (hO : cOk n b A) : Off (eNQ b A s n q) (cnt s n) := fun a c ha hc hac => by
  have h7 := hO.1
  show ((eN b A s n q a c : Int) : Rat) ≤ 0
  unfold eN
  rw [if_neg (by omega), if_neg hac]
  have h := (hO.2.2.1 (sel s n a) (sel s n c) (by have := (sel_in ha).1; omega) (by have := (sel_in hc).1; omega)).1
  exact Rat.intCast_le_intCast.mpr (show 0 - A (sel s n a) (sel s n c) ≤ (0 : Int) by omega)
/-- the first L places, weighed -/
theorem eNQ_blk {n s L : Nat} {b q : Int} {A : Nat → Nat → Int} (hO : cOk n b A) (hr : ∀ i, i < n → rowS A i n ≤ b) (hL : L ≤ cnt s n) (hg : ∀ i, i < n → (bt s i && decide (cnt s i < L)) = true → Go (pQ b A) n (fun i => bt s i && decide (cnt s i < L)) i) : ∃ x : Nat → Rat, (∀ c, c < L → 0 < x c) ∧ ∀ a, a < L → 0 < sumQ (fun c => eNQ b A s n q a c * x c) L := by
  have hb := hO.2.1
  have hbp : (0 : Rat) < ((b : Int) : Rat) := cast_pos (by omega)
  obtain ⟨x, x1, x2⟩ := weigh (pQ_stoch hO hr) hg
  refine ⟨fun c => x (sel s n c), fun c hc => x1 _ (sel_in (show c < cnt s n by omega)).1, fun a ha => ?_⟩
  obtain ⟨a1, a2, a3⟩ := sel_in (show a < cnt s n by omega)
  have h := x2 _ a1 (by rw [show bt s (sel s n a) = true from a2, a3, decide_eq_true ha]; rfl)
  have e1 := sum_sel (s := s) (f := fun j => if cnt s j < L then pQ b A (sel s n a) j * x j else 0) n
  rw [sumQ_congr (g := fun c => if c < L then pQ b A (sel s n a) (sel s n c) * x (sel s n c) else 0) (cnt s n) fun c hc => by rw [(sel_in hc).2.2], sumQ_pre _ hL] at e1
  have e4 : sumQ (fun j => if (bt s j && decide (cnt s j < L)) = true then pQ b A (sel s n a) j * x j else 0) n = sumQ (fun j => if s.testBit j = true then (if cnt s j < L then pQ b A (sel s n a) j * x j else 0) else 0) n := sumQ_congr n fun j _ => by
    show (if (s.testBit j && decide (cnt s j < L)) = true then _ else _) = _
    by_cases q1 : s.testBit j = true
    · rw [q1, if_pos rfl]
      by_cases q2 : cnt s j < L
      · rw [decide_eq_true q2, if_pos q2]; exact if_pos rfl
      · rw [decide_eq_false q2, if_neg q2]; exact if_neg (by decide)
    · have q3 : s.testBit j = false := by cases e : s.testBit j; rfl; exact absurd e q1
      rw [q3, if_neg (show ¬ (false = true) by decide)]
      exact if_neg (by rw [Bool.false_and]; decide)
  rw [e4, ← e1] at h
  have e3 : sumQ (fun c => eNQ b A s n q a c * x (sel s n c)) L = sumQ (fun c => (if c = a then ((b : Int) : Rat) * x (sel s n a) else 0) - ((b : Int) : Rat) * (pQ b A (sel s n a) (sel s n c) * x (sel s n c))) L := by
    refine sumQ_congr _ fun c hc => ?_
    show ((eN b A s n q a c : Int) : Rat) * x (sel s n c) = _ - ((b : Int) : Rat) * (((A (sel s n a) (sel s n c) : Int) : Rat) / ((b : Int) : Rat) * x (sel s n c))
    unfold eN
    rw [if_neg (by omega)]
    by_cases e : a = c
    · subst e
      rw [if_pos rfl, if_pos rfl, Rat.intCast_sub]
      generalize ((A (sel s n a) (sel s n a) : Int) : Rat) = u at *
      generalize ((b : Int) : Rat) = v at *
      generalize x (sel s n a) = y at *
      grind
    · rw [if_neg e, if_neg (fun z => e z.symm), Rat.intCast_sub, show ((0 : Int) : Rat) = 0 from rfl]
      generalize ((A (sel s n a) (sel s n c) : Int) : Rat) = u at *
      generalize ((b : Int) : Rat) = v at *
      generalize x (sel s n c) = y at *
      grind
  show 0 < sumQ (fun c => eNQ b A s n q a c * x (sel s n c)) L
  rw [e3, sumQ_lin, sumQ_single (r := a) _ ha (fun c _ hn => if_neg hn), if_pos rfl]
  have := Rat.mul_pos hbp (show 0 < x (sel s n a) - sumQ (fun c => pQ b A (sel s n a) (sel s n c) * x (sel s n c)) L by grind)
  grind
theorem grp_GN {n s : Nat} {b : Int} {A : Nat → Nat → Int} (hO : cOk n b A) (hr : ∀ i, i < n → rowS A i n ≤ b) (hl : ∀ i, i < n → s.testBit i = true → rowS A i n = b) (hG : isGrp n (cE n A (-1)) s) : ∃ W, cnt s n = W + 1 ∧ GN (eNQ b A s n (-1)) W ∧ ∀ i, s.testBit i = true → cnt (s ^^^ 2 ^ i) n = W ∧ tcof (eNQ b A s n (-1)) W (cnt s i) = Dd (eNQ b A (s ^^^ 2 ^ i) n (-1)) W := by
  have h7 := hO.1
  have hb := hO.2.1
  have hbp : (0 : Rat) < ((b : Int) : Rat) := cast_pos (by omega)
  have hS := pQ_stoch hO hr
  obtain ⟨g1, g2, ⟨i0, g3⟩, g4, g5⟩ := hG
  have hpos := cnt_pos g3 n (g2 i0 g3)
  obtain ⟨W, hW⟩ : ∃ W, cnt s n = W + 1 := ⟨cnt s n - 1, by omega⟩
  have cofs : ∀ i, s.testBit i = true → cnt (s ^^^ 2 ^ i) n = W ∧ tcof (eNQ b A s n (-1)) W (cnt s i) = Dd (eNQ b A (s ^^^ 2 ^ i) n (-1)) W := by
    intro i hi
    have hc := cnt_er hi (bt_xor hi) n
    rw [if_pos (g2 i hi)] at hc
    have hcW : cnt (s ^^^ 2 ^ i) n = W := by omega
    have hp := cnt_k_lt (g2 i hi) hi
    refine ⟨hcW, ?_⟩
    refine congrFun (wed_cells W fun a c ha hc' => ?_) _
    show ((eN b A s n (-1) (skp (cnt s i) a) (skp (cnt s i) c) : Int) : Rat) = ((eN b A (s ^^^ 2 ^ i) n (-1) a c : Int) : Rat)
    unfold eN
    have k2 : skp (cnt s i) c < W + 1 := (skp_r (by omega)).mpr hc'
    rw [if_neg (show ¬ skp (cnt s i) c = cnt s n by omega), if_neg (show ¬ c = cnt (s ^^^ 2 ^ i) n by omega), sel_er hi (show a < cnt (s ^^^ 2 ^ i) n by omega), sel_er hi (show c < cnt (s ^^^ 2 ^ i) n by omega)]
    by_cases e : a = c
    · rw [if_pos e, if_pos (skp_eq.mpr e)]
    · rw [if_neg e, if_neg (fun z => e (skp_eq.mp z))]
  refine ⟨W, hW, ⟨by rw [← hW]; exact eNQ_off hO, fun a ha => ?_, fun L hL => ?_, fun p hp => ?_⟩, cofs⟩
  · obtain ⟨a1, a2, a3⟩ := sel_in (show a < cnt s n by omega)
    have e3 : sumQ (eNQ b A s n (-1) a) (W + 1) = sumQ (fun c => (if c = a then ((b : Int) : Rat) else 0) - 1 * ((A (sel s n a) (sel s n c) : Int) : Rat)) (W + 1) := by
      refine sumQ_congr _ fun c hc => ?_
      show ((eN b A s n (-1) a c : Int) : Rat) = _
      unfold eN
      rw [if_neg (by omega)]
      by_cases e : a = c
      · rw [if_pos e, if_pos e.symm, Rat.intCast_sub]; grind
      · rw [if_neg e, if_neg (fun z => e z.symm), Rat.intCast_sub, show ((0 : Int) : Rat) = 0 from rfl]; grind
    have e5 := sum_sel (s := s) (f := fun j => ((A (sel s n a) j : Int) : Rat)) n
    have e6 : sumQ (fun j => if s.testBit j = true then ((A (sel s n a) j : Int) : Rat) else 0) n = sumQ (fun j => ((A (sel s n a) j : Int) : Rat)) n := sumQ_congr n fun j hj => by
      by_cases q : s.testBit j = true
      · rw [if_pos q]
      · rw [if_neg q]
        have hA := hO.2.2.1 (sel s n a) j (by omega) (by omega)
        have : ¬ 0 < A (sel s n a) j := fun z => q (g4 _ j a2 (.step (.refl _) ⟨by omega, a1, hj, z⟩) hj)
        rw [show A (sel s n a) j = 0 by omega]; rfl
    rw [e6, sumQ_cast (f := A (sel s n a)) n, sumT_row (f := A (sel s n a)) (A := A) (i := sel s n a) n fun _ _ => rfl, hl _ a1 a2, hW] at e5
    rw [e3, sumQ_lin, e5, sumQ_single (r := a) _ ha (fun c _ hn => if_neg hn), if_pos rfl]
    grind
  · refine eNQ_blk hO hr (show L ≤ cnt s n by omega) fun i hi hm => ?_
    obtain ⟨w1, w2, w3⟩ := sel_in (show L < cnt s n by omega)
    rw [Bool.and_eq_true] at hm
    refine Go.rch (E := cE n A (-1)) (w := sel s n L) hS (pQ_edge (by omega)) (by rw [hm.1, hm.2]; rfl) (g5 i _ hm.1 w2) ?_
    show (s.testBit (sel s n L) && decide (cnt s (sel s n L) < L)) = false
    rw [w3, decide_eq_false (Nat.lt_irrefl L), Bool.and_false]
  · obtain ⟨p1, p2, p3⟩ := sel_in (show p < cnt s n by omega)
    obtain ⟨c1, c2⟩ := cofs _ p2
    rw [p3] at c2
    rw [c2]
    have hx := bt_xor p2
    have hw : (s ^^^ 2 ^ sel s n p).testBit (sel s n p) = false := (congrFun hx _).trans er_same
    obtain ⟨x, x1, x2⟩ := eNQ_Mx (s := s ^^^ 2 ^ sel s n p) (q := -1) hO hr hw fun i hi him => by
      have e : er (bt s) (sel s n p) i = true := (congrFun hx i).symm.trans him
      have hne : i ≠ sel s n p := fun e2 => by rw [e2, er_same] at e; cases e
      rw [er_ne hne] at e
      exact g5 i _ e p2
    have := (x2.go x1 _ (Nat.le_refl _)).2 _ (Nat.le_refl _)
    rw [c1] at this
    exact this
/-- the reference's table for the shares -/
def shT (b : Nat) (A : Nat → Nat → Int) (s n : Nat) (a c : Nat) : Rat := if c = cnt s n then (if a = 0 then 1 else 0) else if a = 0 then 1 else mkRat (A (sel s n c) (sel s n a) - (if c = a then (b : Int) else 0)) b
def shQ (b : Nat) (A : Nat → Nat → Int) (s n a : Nat) : Rat := ansQ (shT b A s n) (cnt s n) a
theorem shT_N {n s b : Nat} {A : Nat → Nat → Int} (hb : 0 < b) {r c : Nat} (h0 : 0 < r) (hc : c < cnt s n) (hr : r < cnt s n) : shT b A s n r c = -(1 / (((b : Nat) : Int) : Rat)) * eNQ (b : Int) A s n (-1) c r := by
  have hbz : (((b : Nat) : Int) : Rat) ≠ 0 := int_ne (by omega)
  show (if c = cnt s n then _ else _) = _ * ((eN (b : Int) A s n (-1) c r : Int) : Rat)
  unfold eN
  rw [if_neg (show ¬ c = cnt s n by omega), if_neg (show ¬ r = 0 by omega), if_neg (show ¬ r = cnt s n by omega), Rat.mkRat_eq_div]
  have e2 : ((b : Nat) : Rat) = (((b : Nat) : Int) : Rat) := rfl
  rw [e2]
  have e3 : ((A (sel s n c) (sel s n r) - (if c = r then (b : Int) else 0) : Int) : Rat) = -((((if c = r then (b : Int) else 0) - A (sel s n c) (sel s n r) : Int)) : Rat) := by
    rw [← Rat.intCast_neg]
    exact congrArg (fun z : Int => (z : Rat)) (by omega)
  rw [e3]
  generalize (((if c = r then (b : Int) else 0) - A (sel s n c) (sel s n r) : Int) : Rat) = u at *
  generalize (((b : Nat) : Int) : Rat) = v at *
  grind
theorem grp_shares {n s b : Nat} {A : Nat → Nat → Int} (hO : cOk n (b : Int) A) (hr : ∀ i, i < n → rowS A i n ≤ (b : Int)) (hl : ∀ i, i < n → s.testBit i = true → rowS A i n = (b : Int)) (hG : isGrp n (cE n A (-1)) s) : ∃ W, cnt s n = W + 1 ∧ GN (eNQ (b : Int) A s n (-1)) W ∧ (∀ i, s.testBit i = true → cnt (s ^^^ 2 ^ i) n = W ∧ tcof (eNQ (b : Int) A s n (-1)) W (cnt s i) = Dd (eNQ (b : Int) A (s ^^^ 2 ^ i) n (-1)) W) ∧
    (∀ j, j ≤ cnt s n → Dd (shT b A s n) j ≠ 0) ∧ sumQ (shQ b A s n) (cnt s n) = 1 ∧ (∀ r, r < cnt s n → sumQ (fun c => shQ b A s n c * eNQ (b : Int) A s n (-1) c r) (cnt s n) = 0) ∧ ∀ i, i < cnt s n → shQ b A s n i = tcof (eNQ (b : Int) A s n (-1)) W i / sumQ (tcof (eNQ (b : Int) A s n (-1)) W) (cnt s n) := by
  have hb := hO.2.1
  obtain ⟨W, hW, hN, hc⟩ := grp_GN hO hr hl hG
  have hbz : (((b : Nat) : Int) : Rat) ≠ 0 := int_ne (by omega)
  have h := GN.shares (T := shT b A s n) (s := -(1 / (((b : Nat) : Int) : Rat))) hN (fun z => hbz (by
      generalize (((b : Nat) : Int) : Rat) = u at *
      grind)) (fun c hc => by
      show (if c = cnt s n then _ else _) = _
      rw [if_neg (by omega), if_pos rfl]) (fun r c h0 h1 h2 => shT_N (by omega) h0 (by omega) (by omega)) (by
      show (if W + 1 = cnt s n then _ else _) = _
      rw [if_pos hW.symm, if_pos rfl]) (fun r h0 h1 => by
      show (if W + 1 = cnt s n then _ else _) = _
      rw [if_pos hW.symm, if_neg (by omega)])
  refine ⟨W, hW, hN, hc, ?_⟩
  unfold shQ
  rw [hW]
  exact h
