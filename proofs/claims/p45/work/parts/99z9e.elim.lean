/-! What taking rows from rows leaves as it is. -/
theorem wed_rowZero {W : Nat} {Y : Nat → Nat → Rat} {a : Nat} : ∀ r, a < r → ∀ S, (∀ c, c < W → S c = true → Y a c = 0) → wed W Y r S = 0 := by
  intro r
  induction r with
  | zero => intro h; exact absurd h (Nat.not_lt_zero _)
  | succ r ih =>
    intro h S hz
    show sumQ (fun k => if S k = true then sg (abv S k W) * Y r k * wed W Y r (er S k) else 0) W = 0
    refine sumQ_zero W fun c hc => ?_
    by_cases e : S c = true
    · rw [if_pos e]
      by_cases ea : a = r
      · rw [← ea, hz c hc e]; grind
      · rw [ih (by omega) (er S c) fun c' hc' hs => by
          by_cases e2 : c' = c
          · rw [e2, er_same] at hs; cases hs
          · rw [er_ne e2] at hs; exact hz c' hc' hs]
        grind
    · rw [if_neg e]
theorem abv_full {r W : Nat} : abv (full (r + 1)) r W = 0 := by
  induction W with
  | zero => rfl
  | succ W ih =>
    show abv (full (r + 1)) r W + (if r < W ∧ full (r + 1) W = true then 1 else 0) = 0
    rw [ih, if_neg]
    intro h
    have : W < r + 1 := of_decide_eq_true h.2
    omega
theorem er_full {r : Nat} : er (full (r + 1)) r = full r := by
  funext i
  show (if i = r then false else decide (i < r + 1)) = decide (i < r)
  by_cases e : i = r
  · rw [if_pos e, decide_eq_false (by omega)]
  · rw [if_neg e]
    by_cases h : i < r
    · rw [decide_eq_true h, decide_eq_true (by omega)]
    · rw [decide_eq_false h, decide_eq_false (by omega)]
theorem sumQ_single {f : Nat → Rat} {r : Nat} : ∀ W, r < W → (∀ c, c < W → c ≠ r → f c = 0) → sumQ f W = f r := by
  intro W
  induction W with
  | zero => intro h; exact absurd h (Nat.not_lt_zero _)
  | succ W ih =>
    intro h hz
    show sumQ f W + f W = f r
    by_cases e : r = W
    · rw [e, sumQ_zero W fun c hc => hz c (by omega) (by omega)]; grind
    · rw [ih (by omega) fun c hc hn => hz c (by omega) hn, hz W (by omega) (fun h => e h.symm)]; grind
def prodQ (f : Nat → Rat) : Nat → Rat
  | 0 => 1
  | k + 1 => prodQ f k * f k
theorem prodQ_congr {f g : Nat → Rat} : ∀ k, (∀ a, a < k → f a = g a) → prodQ f k = prodQ g k := by
  intro k
  induction k with
  | zero => intro _; rfl
  | succ k ih => intro h; show prodQ f k * f k = prodQ g k * g k; rw [ih fun a ha => h a (by omega), h k (by omega)]
theorem prodQ_ne {f : Nat → Rat} : ∀ k, (∀ a, a < k → f a ≠ 0) → prodQ f k ≠ 0 := by
  intro k
  induction k with
  | zero => intro _; show (1 : Rat) ≠ 0; grind
  | succ k ih =>
    intro h z
    rcases Rat.mul_eq_zero.mp z with e | e
    · exact ih (fun a ha => h a (by omega)) e
    · exact h k (by omega) e
/-- outside column i nothing but what stands on the way down: the product -/
theorem wed_diag {W i : Nat} {Y : Nat → Nat → Rat} : ∀ r, r ≤ W → (∀ a c, a < r → c < r → a ≠ c → c ≠ i → Y a c = 0) → wed W Y r (full r) = prodQ (fun a => Y a a) r := by
  intro r
  induction r with
  | zero => intro _ _; rfl
  | succ r ih =>
    intro hr hz
    show sumQ (fun k => if full (r + 1) k = true then sg (abv (full (r + 1)) k W) * Y r k * wed W Y r (er (full (r + 1)) k) else 0) W = prodQ (fun a => Y a a) r * Y r r
    rw [sumQ_single (r := r) W (by omega) fun c hc hn => ?_]
    · have hf : full (r + 1) r = true := decide_eq_true (by omega)
      rw [if_pos hf, abv_full, er_full, ih (by omega) fun a c h1 h2 h3 h4 => hz a c (by omega) (by omega) h3 h4]
      rw [show sg 0 = 1 from rfl]
      grind
    · by_cases e : full (r + 1) c = true
      · rw [if_pos e]
        have hc1 : c < r + 1 := of_decide_eq_true e
        by_cases ei : c = i
        · have hir : i < r := by omega
          rw [wed_rowZero (a := i) r hir (er (full (r + 1)) c) fun c' hc' hs => ?_]
          · grind
          · by_cases e2 : c' = c
            · rw [e2, er_same] at hs; cases hs
            · rw [er_ne e2] at hs
              have : c' < r + 1 := of_decide_eq_true hs
              exact hz i c' (by omega) this (by omega) (by omega)
        · rw [hz r c (by omega) hc1 (by omega) ei]; grind
      · rw [if_neg e]
/-- the columns as f names them -/
def colR (X : Nat → Nat → Rat) (f : Nat → Nat) : Nat → Nat → Rat := fun a c => X a (f c)
/-- row i less some of row k -/
def opR (X : Nat → Nat → Rat) (i k : Nat) (c : Rat) : Nat → Nat → Rat := upR X i (fun q => X i q - c * X k q)
theorem colR_op {X : Nat → Nat → Rat} {f : Nat → Nat} {i k : Nat} {c : Rat} : colR (opR X i k c) f = upR (colR X f) i (fun q => colR X f i q + (-c) * colR X f k q) := by
  funext a q
  show (if a = i then (fun q => X i q - c * X k q) else X a) (f q) = (if a = i then (fun q => colR X f i q + (-c) * colR X f k q) else colR X f a) q
  by_cases h : a = i
  · rw [if_pos h, if_pos h]
    show X i (f q) - c * X k (f q) = X i (f q) + (-c) * X k (f q)
    grind
  · rw [if_neg h, if_neg h]; rfl
/-- X comes from R by taking rows below k from other rows -/
def Same (R X : Nat → Nat → Rat) (m k : Nat) : Prop := ∀ (W : Nat) (f : Nat → Nat) (S : Nat → Bool) (r : Nat), k ≤ r → r ≤ m → wed W (colR X f) r S = wed W (colR R f) r S ∧ ∀ i, i < m → Wd W (colR X f i) (wed W (colR X f) r) S = Wd W (colR R f i) (wed W (colR R f) r) S
theorem Same.rfl' {R : Nat → Nat → Rat} {m k : Nat} : Same R R m k := fun _ _ _ _ _ _ => ⟨rfl, fun _ _ => rfl⟩
theorem Same.up {R X : Nat → Nat → Rat} {m k : Nat} (h : Same R X m k) : Same R X m (k + 1) := fun W f S r h1 h2 => h W f S r (by omega) h2
/-- one taking, of row k -/
theorem Same.op {R X : Nat → Nat → Rat} {m k i : Nat} {c : Rat} (hk : k < m) (hi : i < m) (hik : i ≠ k) (h : Same R X m (k + 1)) : Same R (opR X i k c) m (k + 1) := by
  intro W f S r h1 h2
  have key : ∀ S, wed W (colR (opR X i k c) f) r S = wed W (colR X f) r S := by
    intro S
    rw [colR_op]
    by_cases e : i < r
    · exact wed_op e (by omega) hik S
    · rw [wed_off r (by omega)]
  refine ⟨(key S).trans (h W f S r h1 h2).1, fun j hj => ?_⟩
  rw [← (h W f S r h1 h2).2 j hj]
  rw [show wed W (colR (opR X i k c) f) r = wed W (colR X f) r from funext key]
  rw [colR_op]
  by_cases e : j = i
  · rw [e, show upR (colR X f) i (fun q => colR X f i q + (-c) * colR X f k q) i = (fun q => colR X f i q + (-c) * colR X f k q) from if_pos rfl, Wd_row, wed_again (a := k) r (by omega)]
    grind
  · rw [show upR (colR X f) i (fun q => colR X f i q + (-c) * colR X f k q) j = colR X f j from if_neg e]
/-- whole numbers, not beyond β -/
def Wh (x : Rat) (β : Int) : Prop := ∃ z : Int, x = (z : Rat) ∧ -β ≤ z ∧ z ≤ β
theorem Wh.sum {f : Nat → Rat} {β : Int} (hb : 0 ≤ β) : ∀ W, (∀ c, c < W → Wh (f c) β) → Wh (sumQ f W) ((W : Int) * β) := by
  intro W
  induction W with
  | zero => intro _; exact ⟨0, rfl, by omega, by omega⟩
  | succ W ih =>
    intro h
    obtain ⟨z, z1, z2, z3⟩ := ih fun c hc => h c (by omega)
    obtain ⟨y, y1, y2, y3⟩ := h W (by omega)
    refine ⟨z + y, ?_, ?_, ?_⟩
    · show sumQ f W + f W = _
      rw [z1, y1, Rat.intCast_add]
    · rw [show ((W + 1 : Nat) : Int) = (W : Int) + 1 by omega, Int.add_mul, Int.one_mul]; omega
    · rw [show ((W + 1 : Nat) : Int) = (W : Int) + 1 by omega, Int.add_mul, Int.one_mul]; omega
theorem abs_mul_le {x y a b : Int} (hx : -a ≤ x ∧ x ≤ a) (hy : -b ≤ y ∧ y ≤ b) : -(a * b) ≤ x * y ∧ x * y ≤ a * b := by
  have h1 : 0 ≤ (a - x) * (b - y) := Int.mul_nonneg (by omega) (by omega)
  have h2 : 0 ≤ (a + x) * (b + y) := Int.mul_nonneg (by omega) (by omega)
  have h3 : 0 ≤ (a - x) * (b + y) := Int.mul_nonneg (by omega) (by omega)
  have h4 : 0 ≤ (a + x) * (b - y) := Int.mul_nonneg (by omega) (by omega)
  have e1 : (a - x) * (b - y) = a * b - a * y - x * b + x * y := by grind
  have e2 : (a + x) * (b + y) = a * b + a * y + x * b + x * y := by grind
  have e3 : (a - x) * (b + y) = a * b + a * y - x * b - x * y := by grind
  have e4 : (a + x) * (b - y) = a * b - a * y + x * b - x * y := by grind
  omega
theorem Wd_whole {W : Nat} {r : Nat → Rat} {w : (Nat → Bool) → Rat} {a b : Int} (ha : 0 ≤ a) (hb : 0 ≤ b) (hr : ∀ c, c < W → Wh (r c) a) (hw : ∀ S, Wh (w S) b) (S : Nat → Bool) : Wh (Wd W r w S) ((W : Int) * (a * b)) := by
  refine Wh.sum (Int.mul_nonneg ha hb) W fun c hc => ?_
  by_cases e : S c = true
  · rw [if_pos e]
    obtain ⟨z, z1, z2⟩ := hr c hc
    obtain ⟨y, y1, y2⟩ := hw (er S c)
    have m := abs_mul_le z2 y2
    unfold sg
    by_cases h : abv S c W % 2 = 0
    · refine ⟨z * y, ?_, m.1, m.2⟩
      rw [if_pos h, z1, y1, Rat.intCast_mul]; grind
    · refine ⟨-(z * y), ?_, by omega, by omega⟩
      rw [if_neg h, z1, y1, Rat.intCast_neg, Rat.intCast_mul]; grind
  · rw [if_neg e]
    have := Int.mul_nonneg ha hb
    exact ⟨0, rfl, by omega, by omega⟩
theorem wed_whole {W : Nat} {R : Nat → Nat → Rat} {a : Int} (ha : 0 ≤ a) : ∀ k, (∀ i c, i < k → c < W → Wh (R i c) a) → ∀ S, Wh (wed W R k S) (((W : Int) * a) ^ k) := by
  intro k
  induction k with
  | zero => intro _ S; exact ⟨1, rfl, by show -((W : Int) * a) ^ 0 ≤ 1; rw [Int.pow_zero]; decide, by rw [Int.pow_zero]; decide⟩
  | succ k ih =>
    intro h S
    have hp : 0 ≤ ((W : Int) * a) ^ k := Int.pow_nonneg (Int.mul_nonneg (by omega) ha)
    have := Wd_whole ha hp (fun c hc => h k c (by omega) hc) (ih fun i c hi hc => h i c (by omega) hc) S
    rw [Int.pow_succ]
    rw [show ((W : Int) * a) ^ k * ((W : Int) * a) = (W : Int) * (a * ((W : Int) * a) ^ k) by grind]
    exact this
