/-! Minors: rows one after another, each by its last row. -/
def sumQ (f : Nat → Rat) : Nat → Rat
  | 0 => 0
  | k + 1 => sumQ f k + f k
theorem sumQ_congr {f g : Nat → Rat} : ∀ m, (∀ k, k < m → f k = g k) → sumQ f m = sumQ g m := by
  intro m
  induction m with
  | zero => intro _; rfl
  | succ m ih => intro h; show sumQ f m + f m = sumQ g m + g m; rw [ih fun k hk => h k (by omega), h m (by omega)]
theorem sumQ_add {f g : Nat → Rat} : ∀ m, sumQ (fun k => f k + g k) m = sumQ f m + sumQ g m := by
  intro m
  induction m with
  | zero => show (0 : Rat) = 0 + 0; grind
  | succ m ih => show sumQ (fun k => f k + g k) m + (f m + g m) = sumQ f m + f m + (sumQ g m + g m); rw [ih]; grind
theorem sumQ_mul {c : Rat} {f : Nat → Rat} : ∀ m, sumQ (fun k => c * f k) m = c * sumQ f m := by
  intro m
  induction m with
  | zero => show (0 : Rat) = c * 0; grind
  | succ m ih => show sumQ (fun k => c * f k) m + c * f m = c * (sumQ f m + f m); rw [ih]; grind
theorem sumQ_zero {f : Nat → Rat} : ∀ m, (∀ k, k < m → f k = 0) → sumQ f m = 0 := by
  intro m
  induction m with
  | zero => intro _; rfl
  | succ m ih => intro h; show sumQ f m + f m = 0; rw [ih fun k hk => h k (by omega), h m (by omega)]; grind
theorem sumQ_swap {F : Nat → Nat → Rat} : ∀ m n, sumQ (fun k => sumQ (fun l => F k l) n) m = sumQ (fun l => sumQ (fun k => F k l) m) n := by
  intro m
  induction m with
  | zero => intro n; exact (sumQ_zero n fun _ _ => rfl).symm
  | succ m ih =>
    intro n
    show sumQ (fun k => sumQ (fun l => F k l) n) m + sumQ (fun l => F m l) n = sumQ (fun l => sumQ (fun k => F k l) m + F m l) n
    rw [sumQ_add, ih]
/-- without k -/
def er (S : Nat → Bool) (k : Nat) : Nat → Bool := fun i => if i = k then false else S i
theorem er_ne {S : Nat → Bool} {k i : Nat} (h : i ≠ k) : er S k i = S i := if_neg h
theorem er_same {S : Nat → Bool} {k : Nat} : er S k k = false := if_pos rfl
theorem er_comm {S : Nat → Bool} {k l : Nat} : er (er S k) l = er (er S l) k := by
  funext i
  show (if i = l then false else if i = k then false else S i) = (if i = k then false else if i = l then false else S i)
  by_cases h : i = l <;> by_cases h2 : i = k <;> simp [h, h2]
/-- how many of S stand above k -/
def abv (S : Nat → Bool) (k : Nat) : Nat → Nat
  | 0 => 0
  | i + 1 => abv S k i + (if k < i ∧ S i = true then 1 else 0)
theorem abv_er {S : Nat → Bool} {k l : Nat} (hk : S k = true) : ∀ m, abv (er S k) l m + (if l < k ∧ k < m then 1 else 0) = abv S l m := by
  intro m
  induction m with
  | zero => rw [if_neg (by omega)]; rfl
  | succ m ih =>
    show abv (er S k) l m + (if l < m ∧ er S k m = true then 1 else 0) + (if l < k ∧ k < m + 1 then 1 else 0) = abv S l m + (if l < m ∧ S m = true then 1 else 0)
    by_cases e : m = k
    · subst e
      rw [er_same, hk]
      rw [if_neg (show ¬ (l < m ∧ m < m) by omega)] at ih
      by_cases h : l < m
      · rw [if_neg (fun z => by cases z.2), if_pos (show l < m ∧ m < m + 1 by omega), if_pos ⟨h, rfl⟩]
        omega
      · rw [if_neg (fun z => by cases z.2), if_neg (show ¬ (l < m ∧ m < m + 1) by omega), if_neg (fun z => h z.1)]
        omega
    · rw [er_ne e]
      by_cases h : l < k ∧ k < m
      · rw [if_pos h] at ih
        rw [if_pos (show l < k ∧ k < m + 1 by omega)]
        omega
      · rw [if_neg h] at ih
        rw [if_neg (show ¬ (l < k ∧ k < m + 1) by omega)]
        omega
def sg (n : Nat) : Rat := if n % 2 = 0 then 1 else -1
theorem sg_succ {n : Nat} : sg (n + 1) = - sg n := by
  unfold sg
  by_cases h : n % 2 = 0
  · rw [if_pos h, if_neg (by omega)]
  · rw [if_neg h, if_pos (by omega)]; grind
theorem sg_swap {S : Nat → Bool} {k l m : Nat} (hk : S k = true) (hl : S l = true) (hkm : k < m) (hlm : l < m) (hne : k ≠ l) : sg (abv S k m) * sg (abv (er S k) l m) = - (sg (abv S l m) * sg (abv (er S l) k m)) := by
  have a := abv_er (l := l) hk m
  have b := abv_er (l := k) hl m
  by_cases h : l < k
  · rw [if_pos ⟨h, hkm⟩] at a
    rw [if_neg (by omega), Nat.add_zero] at b
    rw [← a, b, sg_succ]
    grind
  · rw [if_neg (by omega), Nat.add_zero] at a
    rw [if_pos (show k < l ∧ l < m by omega)] at b
    rw [a, ← b, sg_succ]
    grind
/-- one more row -/
def Wd (m : Nat) (r : Nat → Rat) (w : (Nat → Bool) → Rat) (S : Nat → Bool) : Rat := sumQ (fun k => if S k = true then sg (abv S k m) * r k * w (er S k) else 0) m
theorem Wd_anti {m : Nat} {r s : Nat → Rat} {w : (Nat → Bool) → Rat} {S : Nat → Bool} : Wd m s (Wd m r w) S + Wd m r (Wd m s w) S = 0 := by
  have ex : ∀ (s r : Nat → Rat), Wd m s (Wd m r w) S = sumQ (fun k => sumQ (fun l => if S k = true ∧ er S k l = true then (sg (abv S k m) * sg (abv (er S k) l m)) * (s k * r l) * w (er (er S k) l) else 0) m) m := by
    intro s r
    refine sumQ_congr m fun k hk => ?_
    by_cases h : S k = true
    · rw [if_pos h]
      show sg (abv S k m) * s k * sumQ (fun l => if er S k l = true then sg (abv (er S k) l m) * r l * w (er (er S k) l) else 0) m = _
      rw [← sumQ_mul]
      refine sumQ_congr m fun l hl => ?_
      by_cases h2 : er S k l = true
      · rw [if_pos h2, if_pos ⟨h, h2⟩]; grind
      · rw [if_neg h2, if_neg fun z => h2 z.2]; grind
    · rw [if_neg h]
      exact (sumQ_zero m fun l hl => if_neg fun z => h z.1).symm
  rw [ex s r, ex r s, sumQ_swap m m (F := fun k l => if S k = true ∧ er S k l = true then (sg (abv S k m) * sg (abv (er S k) l m)) * (r k * s l) * w (er (er S k) l) else 0), ← sumQ_add]
  refine sumQ_zero m fun k hk => ?_
  rw [← sumQ_add]
  refine sumQ_zero m fun l hl => ?_
  by_cases e : k = l
  · subst e
    have h : ¬ (S k = true ∧ er S k k = true) := fun z => by rw [er_same] at z; cases z.2
    rw [if_neg h]; grind
  · have e1 : er S k l = S l := er_ne (fun h => e h.symm)
    have e2 : er S l k = S k := er_ne e
    rw [e1, e2]
    by_cases h : S k = true ∧ S l = true
    · rw [if_pos h, if_pos ⟨h.2, h.1⟩, er_comm (k := l) (l := k), sg_swap h.1 h.2 hk hl e]
      grind
    · rw [if_neg h, if_neg fun z => h ⟨z.2, z.1⟩]; grind
theorem Wd_self {m : Nat} {r : Nat → Rat} {w : (Nat → Bool) → Rat} {S : Nat → Bool} : Wd m r (Wd m r w) S = 0 := by
  have := Wd_anti (m := m) (r := r) (s := r) (w := w) (S := S)
  grind
theorem Wd_zero {m : Nat} {r : Nat → Rat} {w : (Nat → Bool) → Rat} (h : ∀ S, w S = 0) (S : Nat → Bool) : Wd m r w S = 0 :=
  sumQ_zero m fun k _ => by
    by_cases e : S k = true
    · rw [if_pos e, h]; grind
    · rw [if_neg e]
theorem Wd_congr {m : Nat} {r : Nat → Rat} {w w' : (Nat → Bool) → Rat} (h : ∀ S, w S = w' S) (S : Nat → Bool) : Wd m r w S = Wd m r w' S := by
  rw [show w = w' from funext h]
theorem Wd_row {m : Nat} {r s : Nat → Rat} {c : Rat} {w : (Nat → Bool) → Rat} {S : Nat → Bool} : Wd m (fun k => r k + c * s k) w S = Wd m r w S + c * Wd m s w S := by
  unfold Wd
  rw [← sumQ_mul, ← sumQ_add]
  refine sumQ_congr m fun k _ => ?_
  by_cases e : S k = true
  · rw [if_pos e, if_pos e, if_pos e]; grind
  · rw [if_neg e, if_neg e, if_neg e]; grind
theorem Wd_lin {m : Nat} {r : Nat → Rat} {c : Rat} {w w' : (Nat → Bool) → Rat} {S : Nat → Bool} : Wd m r (fun S => w S + c * w' S) S = Wd m r w S + c * Wd m r w' S := by
  unfold Wd
  rw [← sumQ_mul, ← sumQ_add]
  refine sumQ_congr m fun k _ => ?_
  by_cases e : S k = true
  · rw [if_pos e, if_pos e, if_pos e]; grind
  · rw [if_neg e, if_neg e, if_neg e]; grind
/-- the minors of the first k rows -/
def wed (m : Nat) (R : Nat → Nat → Rat) : Nat → (Nat → Bool) → Rat
  | 0 => fun _ => 1
  | k + 1 => Wd m (R k) (wed m R k)
/-- a row that is there already gives 0 -/
theorem wed_again {m : Nat} {R : Nat → Nat → Rat} {a : Nat} : ∀ k, a < k → ∀ S, Wd m (R a) (wed m R k) S = 0 := by
  intro k
  induction k with
  | zero => intro h; exact absurd h (Nat.not_lt_zero _)
  | succ k ih =>
    intro h S
    by_cases e : a = k
    · rw [e]; exact Wd_self
    · have h1 := Wd_anti (m := m) (r := R k) (s := R a) (w := wed m R k) (S := S)
      have h2 : Wd m (R k) (Wd m (R a) (wed m R k)) S = 0 := Wd_zero (ih (by omega)) S
      rw [h2] at h1
      show Wd m (R a) (Wd m (R k) (wed m R k)) S = 0
      grind
/-- a row in place of row i -/
def upR (R : Nat → Nat → Rat) (i : Nat) (r : Nat → Rat) : Nat → Nat → Rat := fun a => if a = i then r else R a
theorem wed_off {m : Nat} {R : Nat → Nat → Rat} {i : Nat} {r : Nat → Rat} : ∀ k, k ≤ i → wed m (upR R i r) k = wed m R k := by
  intro k
  induction k with
  | zero => intro _; rfl
  | succ k ih =>
    intro h
    show Wd m (upR R i r k) (wed m (upR R i r) k) = Wd m (R k) (wed m R k)
    rw [ih (by omega), show upR R i r k = R k from if_neg (by omega)]
/-- linear in each row -/
theorem wed_lin {m : Nat} {R : Nat → Nat → Rat} {i : Nat} {r s : Nat → Rat} {c : Rat} : ∀ k, i < k → ∀ S, wed m (upR R i (fun j => r j + c * s j)) k S = wed m (upR R i r) k S + c * wed m (upR R i s) k S := by
  intro k
  induction k with
  | zero => intro h; exact absurd h (Nat.not_lt_zero _)
  | succ k ih =>
    intro h S
    show Wd m (upR R i (fun j => r j + c * s j) k) (wed m (upR R i (fun j => r j + c * s j)) k) S = Wd m (upR R i r k) (wed m (upR R i r) k) S + c * Wd m (upR R i s k) (wed m (upR R i s) k) S
    by_cases e : i = k
    · subst e
      rw [wed_off i (Nat.le_refl i), wed_off i (Nat.le_refl i), wed_off i (Nat.le_refl i)]
      rw [show upR R i (fun j => r j + c * s j) i = fun j => r j + c * s j from if_pos rfl, show upR R i r i = r from if_pos rfl, show upR R i s i = s from if_pos rfl]
      exact Wd_row
    · have u : ∀ t, upR R i t k = R k := fun t => if_neg (by omega)
      rw [u, u, u, Wd_congr (ih (by omega)) S]
      exact Wd_lin
/-- two rows that are the same give 0 -/
theorem wed_two {m : Nat} {R : Nat → Nat → Rat} {a b : Nat} (hab : a < b) (h : R a = R b) : ∀ k, b < k → ∀ S, wed m R k S = 0 := by
  intro k
  induction k with
  | zero => intro h; exact absurd h (Nat.not_lt_zero _)
  | succ k ih =>
    intro hk S
    by_cases e : b = k
    · subst e
      show Wd m (R b) (wed m R b) S = 0
      rw [← h]
      exact wed_again b hab S
    · exact Wd_zero (ih (by omega)) S
/-- a row plus some of another: nothing changes -/
theorem wed_op {m : Nat} {R : Nat → Nat → Rat} {i j k : Nat} {c : Rat} (hi : i < k) (hj : j < k) (hij : i ≠ j) (S : Nat → Bool) : wed m (upR R i (fun q => R i q + c * R j q)) k S = wed m R k S := by
  rw [wed_lin k hi S]
  have e1 : upR R i (R i) = R := by
    funext a
    show (if a = i then R i else R a) = R a
    by_cases h : a = i
    · rw [if_pos h, h]
    · rw [if_neg h]
  have e2 : wed m (upR R i (R j)) k S = 0 := by
    have hji : upR R i (R j) j = R j := if_neg (fun h => hij h.symm)
    have hii : upR R i (R j) i = R j := if_pos rfl
    rcases Nat.lt_or_gt_of_ne hij with h | h
    · exact wed_two h (by rw [hji, hii]) k hj S
    · exact wed_two h (by rw [hji, hii]) k hi S
  rw [e1, e2]
  grind
