/-! Minors without a row and a column; rows whose sums are 0; rows that depend. -/
def skp (p c : Nat) : Nat := if c < p then c else c + 1
theorem skp_lo {p c : Nat} (h : c < p) : skp p c = c := if_pos h
theorem skp_hi {p c : Nat} (h : p ≤ c) : skp p c = c + 1 := if_neg (by omega)
theorem skp_ne {p c : Nat} : skp p c ≠ p := by
  unfold skp; split <;> omega
theorem skp_lt {p c d : Nat} : skp p c < skp p d ↔ c < d := by
  unfold skp; split <;> split <;> omega
theorem skp_eq {p c d : Nat} : skp p c = skp p d ↔ c = d := by
  unfold skp; split <;> split <;> omega
theorem skp_r {p c W : Nat} (h : p ≤ W) : skp p c < W + 1 ↔ c < W := by
  unfold skp; split <;> omega
theorem sumQ_skp {g : Nat → Rat} {p : Nat} : ∀ W, p ≤ W → sumQ g (W + 1) = sumQ (fun c => g (skp p c)) W + g p := by
  intro W
  induction W with
  | zero => intro h; rw [show p = 0 by omega]; rfl
  | succ W ih =>
    intro h
    show sumQ g (W + 1) + g (W + 1) = _
    by_cases e : p = W + 1
    · subst e
      rw [sumQ_congr (f := fun c => g (skp (W + 1) c)) (g := g) (W + 1) fun c hc => by rw [skp_lo hc]]
    · show sumQ g (W + 1) + g (W + 1) = sumQ (fun c => g (skp p c)) W + g (skp p W) + g p
      rw [ih (by omega), skp_hi (show p ≤ W by omega)]
      grind
theorem sumK_skp {g : Nat → Nat} {p : Nat} : ∀ W, p ≤ W → sumK g (W + 1) = sumK (fun c => g (skp p c)) W + g p := by
  intro W
  induction W with
  | zero => intro h; rw [show p = 0 by omega]; rfl
  | succ W ih =>
    intro h
    show sumK g (W + 1) + g (W + 1) = _
    by_cases e : p = W + 1
    · subst e
      have : sumK (fun c => g (skp (W + 1) c)) (W + 1) = sumK g (W + 1) := by
        have key : ∀ k, k ≤ W + 1 → sumK (fun c => g (skp (W + 1) c)) k = sumK g k := by
          intro k
          induction k with
          | zero => intro _; rfl
          | succ k ihk => intro hk; show sumK _ k + g (skp (W + 1) k) = sumK g k + g k; rw [ihk (by omega), skp_lo (show k < W + 1 by omega)]
        exact key _ (Nat.le_refl _)
      rw [this]
    · show sumK g (W + 1) + g (W + 1) = sumK (fun c => g (skp p c)) W + g (skp p W) + g p
      rw [ih (by omega), skp_hi (show p ≤ W by omega)]
      omega
theorem abv_sum {S : Nat → Bool} {k : Nat} : ∀ m, abv S k m = sumK (fun i => if k < i ∧ S i = true then 1 else 0) m := by
  intro m
  induction m with
  | zero => rfl
  | succ m ih => show abv S k m + _ = sumK _ m + _; rw [ih]
/-- without place p -/
def unS (S : Nat → Bool) (p : Nat) : Nat → Bool := fun c => S (skp p c)
theorem abv_skp {S : Nat → Bool} {p c W : Nat} (hp : p ≤ W) : abv S (skp p c) (W + 1) = abv (unS S p) c W + (if skp p c < p ∧ S p = true then 1 else 0) := by
  rw [abv_sum, abv_sum, sumK_skp W hp]
  have e : (fun i => if skp p c < skp p i ∧ S (skp p i) = true then 1 else 0) = (fun i => if c < i ∧ unS S p i = true then 1 else 0) := by
    funext i
    by_cases h : c < i ∧ S (skp p i) = true
    · rw [if_pos ⟨skp_lt.mpr h.1, h.2⟩, if_pos (show c < i ∧ unS S p i = true from h)]
    · rw [if_neg (fun z => h ⟨skp_lt.mp z.1, z.2⟩), if_neg (show ¬ (c < i ∧ unS S p i = true) from h)]
  rw [e]
theorem er_skp {S : Nat → Bool} {p c : Nat} : unS (er S (skp p c)) p = er (unS S p) c := by
  funext i
  show (if skp p i = skp p c then false else S (skp p i)) = (if i = c then false else S (skp p i))
  by_cases h : i = c
  · rw [if_pos h, if_pos (skp_eq.mpr h)]
  · rw [if_neg h, if_neg fun z => h (skp_eq.mp z)]
theorem wed_skp {W p : Nat} {R : Nat → Nat → Rat} (hp : p ≤ W) : ∀ k S, S p = false → wed (W + 1) R k S = wed W (colR R (skp p)) k (unS S p) := by
  intro k
  induction k with
  | zero => intro S _; rfl
  | succ k ih =>
    intro S hS
    show sumQ (fun c => if S c = true then sg (abv S c (W + 1)) * R k c * wed (W + 1) R k (er S c) else 0) (W + 1) = sumQ (fun c => if unS S p c = true then sg (abv (unS S p) c W) * R k (skp p c) * wed W (colR R (skp p)) k (er (unS S p) c) else 0) W
    rw [sumQ_skp W hp]
    rw [hS, if_neg (by decide), sumQ_congr (g := fun c => if unS S p c = true then sg (abv (unS S p) c W) * R k (skp p c) * wed W (colR R (skp p)) k (er (unS S p) c) else 0) W fun c hc => ?_]
    · grind
    · by_cases e : S (skp p c) = true
      · rw [if_pos e, if_pos (show unS S p c = true from e), abv_skp hp, hS, if_neg (fun z => by cases z.2), Nat.add_zero, ih (er S (skp p c)) (by rw [er_ne (fun z => skp_ne z.symm)]; exact hS), er_skp]
      · rw [if_neg e, if_neg (show ¬ unS S p c = true from e)]
def unit (p : Nat) : Nat → Rat := fun c => if c = p then 1 else 0
theorem sg_even {x : Nat} : sg (x + x) = 1 := if_pos (by omega)
/-- row p is a unit: neither row p nor column p count -/
theorem wed_unit {W p : Nat} {R : Nat → Nat → Rat} (hp : p ≤ W) : ∀ k, p ≤ k → ∀ S, S p = true → wed (W + 1) (upR R p (unit p)) (k + 1) S = sg (abv S p (W + 1) + (k - p)) * wed W (fun a c => R (skp p a) (skp p c)) k (unS S p) := by
  have zero : ∀ k, p ≤ k → ∀ S, S p = false → wed (W + 1) (upR R p (unit p)) (k + 1) S = 0 := fun k hk S hS => wed_rowZero (a := p) (k + 1) (by omega) S fun c _ hc => by
    rw [show upR R p (unit p) p = unit p from if_pos rfl]
    exact if_neg (fun e => by rw [e, hS] at hc; cases hc)
  intro k
  induction k with
  | zero =>
    intro hk S hS
    have hp0 : p = 0 := by omega
    subst hp0
    show sumQ (fun c => if S c = true then sg (abv S c (W + 1)) * upR R 0 (unit 0) 0 c * 1 else 0) (W + 1) = sg (abv S 0 (W + 1) + 0) * 1
    rw [sumQ_single (r := 0) (W + 1) (by omega) fun c _ hc => ?_]
    · rw [if_pos hS, show upR R 0 (unit 0) 0 = unit 0 from if_pos rfl, show unit 0 0 = 1 from if_pos rfl]
      grind
    · rw [show upR R 0 (unit 0) 0 = unit 0 from if_pos rfl, show unit 0 c = 0 from if_neg hc]
      split <;> grind
  | succ k ih =>
    intro hk S hS
    by_cases e : p = k + 1
    · subst e
      show sumQ (fun c => if S c = true then sg (abv S c (W + 1)) * upR R (k + 1) (unit (k + 1)) (k + 1) c * wed (W + 1) (upR R (k + 1) (unit (k + 1))) (k + 1) (er S c) else 0) (W + 1) = _
      rw [sumQ_single (r := k + 1) (W + 1) (by omega) fun c _ hc => ?_]
      · rw [if_pos hS, show upR R (k + 1) (unit (k + 1)) (k + 1) = unit (k + 1) from if_pos rfl, show unit (k + 1) (k + 1) = 1 from if_pos rfl, wed_off (k + 1) (Nat.le_refl _), wed_skp hp (k + 1) _ er_same]
        have e1 : unS (er S (k + 1)) (k + 1) = unS S (k + 1) := by
          funext i
          exact er_ne skp_ne
        rw [e1, Nat.sub_self, Nat.add_zero, wed_cells (R := colR R (skp (k + 1))) (R' := fun a c => R (skp (k + 1) a) (skp (k + 1) c)) (k + 1) fun a c ha hc => ?_]
        · grind
        · show R a (skp (k + 1) c) = R (skp (k + 1) a) (skp (k + 1) c)
          rw [skp_lo ha]
      · rw [show upR R (k + 1) (unit (k + 1)) (k + 1) = unit (k + 1) from if_pos rfl, show unit (k + 1) c = 0 from if_neg hc]
        split <;> grind
    · have hpk : p ≤ k := by omega
      show sumQ (fun c => if S c = true then sg (abv S c (W + 1)) * upR R p (unit p) (k + 1) c * wed (W + 1) (upR R p (unit p)) (k + 1) (er S c) else 0) (W + 1) = sg (abv S p (W + 1) + (k + 1 - p)) * sumQ (fun c => if unS S p c = true then sg (abv (unS S p) c W) * R (skp p k) (skp p c) * wed W (fun a c => R (skp p a) (skp p c)) k (er (unS S p) c) else 0) W
      rw [sumQ_skp W hp, if_pos hS, zero k hpk (er S p) er_same, ← sumQ_mul]
      rw [show upR R p (unit p) (k + 1) = R (k + 1) from if_neg (by omega)]
      rw [sumQ_congr (g := fun c => sg (abv S p (W + 1) + (k + 1 - p)) * (if unS S p c = true then sg (abv (unS S p) c W) * R (skp p k) (skp p c) * wed W (fun a c => R (skp p a) (skp p c)) k (er (unS S p) c) else 0)) W fun c hc => ?_]
      · grind
      · by_cases e2 : S (skp p c) = true
        · rw [if_pos e2, if_pos (show unS S p c = true from e2), ih hpk (er S (skp p c)) (by rw [er_ne (fun z => skp_ne z.symm)]; exact hS), er_skp, abv_skp hp, skp_hi hpk]
          have ha := abv_er (l := p) e2 (W + 1)
          have hc1 : skp p c < W + 1 := (skp_r hp).mpr hc
          by_cases e3 : skp p c < p
          · rw [if_pos ⟨e3, hS⟩]
            rw [if_neg (show ¬ (p < skp p c ∧ skp p c < W + 1) by omega), Nat.add_zero] at ha
            rw [ha, show abv S p (W + 1) + (k + 1 - p) = abv S p (W + 1) + (k - p) + 1 by omega, sg_succ, sg_succ]
            grind
          · have e4 : p < skp p c := by have := skp_ne (p := p) (c := c); omega
            rw [if_neg (fun z => e3 z.1), Nat.add_zero]
            rw [if_pos ⟨e4, hc1⟩] at ha
            rw [← ha, show abv (er S (skp p c)) p (W + 1) + 1 + (k + 1 - p) = abv (er S (skp p c)) p (W + 1) + (k - p) + 1 + 1 by omega, sg_succ, sg_succ]
            grind
        · rw [if_neg e2, if_neg (show ¬ unS S p c = true from e2)]
          grind
theorem abv_fullp {p : Nat} : ∀ W, p ≤ W → abv (full (W + 1)) p (W + 1) = W - p := by
  have key : ∀ N W, p ≤ W → W + 1 ≤ N → abv (full N) p (W + 1) = W - p := by
    intro N W
    induction W with
    | zero => intro h hN; show 0 + (if p < 0 ∧ full N 0 = true then 1 else 0) = 0 - p; rw [if_neg (by omega)]; omega
    | succ W ih =>
      intro h hN
      show abv (full N) p (W + 1) + (if p < W + 1 ∧ full N (W + 1) = true then 1 else 0) = W + 1 - p
      have hf : full N (W + 1) = true := decide_eq_true (by omega)
      by_cases e : p = W + 1
      · subst e
        rw [if_neg (by omega)]
        have : ∀ m, m ≤ W + 2 → abv (full N) (W + 1) m = 0 := by
          intro m
          induction m with
          | zero => intro _; rfl
          | succ m ihm => intro hm; show abv (full N) (W + 1) m + (if W + 1 < m ∧ full N m = true then 1 else 0) = 0; rw [ihm (by omega), if_neg (by omega)]
        rw [this _ (by omega)]
        omega
      · rw [ih (by omega) (by omega), if_pos ⟨by omega, hf⟩]
        omega
  intro W h
  exact key (W + 1) W h (Nat.le_refl _)
theorem wed_unit_full {W p : Nat} {R : Nat → Nat → Rat} (hp : p ≤ W) : wed (W + 1) (upR R p (unit p)) (W + 1) (full (W + 1)) = Dd (fun a c => R (skp p a) (skp p c)) W := by
  rw [wed_unit hp W hp (full (W + 1)) (decide_eq_true (by omega)), abv_fullp W hp, sg_even]
  have e : unS (full (W + 1)) p = full W := by
    funext c
    show decide (skp p c < W + 1) = decide (c < W)
    by_cases h : c < W
    · rw [decide_eq_true h, decide_eq_true ((skp_r hp).mpr h)]
    · rw [decide_eq_false h, decide_eq_false fun z => h ((skp_r hp).mp z)]
  rw [e]
  show 1 * wed W _ W (full W) = wed W _ W (full W)
  grind
/-- with k too -/
def ad (S : Nat → Bool) (k : Nat) : Nat → Bool := fun i => if i = k then true else S i
theorem ad_same {S : Nat → Bool} {k : Nat} : ad S k k = true := if_pos rfl
theorem ad_ne {S : Nat → Bool} {k i : Nat} (h : i ≠ k) : ad S k i = S i := if_neg h
theorem er_ad {S : Nat → Bool} {k : Nat} (h : S k = false) : er (ad S k) k = S := by
  funext i
  by_cases e : i = k
  · rw [e, er_same, h]
  · rw [er_ne e, ad_ne e]
theorem ad_er {S : Nat → Bool} {k : Nat} (h : S k = true) : ad (er S k) k = S := by
  funext i
  by_cases e : i = k
  · rw [e, ad_same, h]
  · rw [ad_ne e, er_ne e]
theorem er_ad_comm {S : Nat → Bool} {k l : Nat} (h : k ≠ l) : er (ad S k) l = ad (er S l) k := by
  funext i
  show (if i = l then false else if i = k then true else S i) = (if i = k then true else if i = l then false else S i)
  by_cases e : i = l <;> by_cases e2 : i = k
  · exact absurd (e2.symm.trans e) h
  · rw [if_pos e, if_neg e2, if_pos e]
  · rw [if_neg e, if_pos e2, if_pos e2]
  · rw [if_neg e, if_neg e2, if_neg e2, if_neg e]
theorem abv_self {S T : Nat → Bool} {k : Nat} (h : ∀ i, i ≠ k → S i = T i) : ∀ m, abv S k m = abv T k m := by
  intro m
  induction m with
  | zero => rfl
  | succ m ih =>
    show abv S k m + (if k < m ∧ S m = true then 1 else 0) = abv T k m + (if k < m ∧ T m = true then 1 else 0)
    by_cases e : m = k
    · rw [ih, if_neg (by omega), if_neg (by omega)]
    · rw [ih, h m e]
/-- one column more, over all that are not there -/
def io (m : Nat) (w : (Nat → Bool) → Rat) (S : Nat → Bool) : Rat := sumQ (fun c => if S c = true then 0 else sg (abv S c m) * w (ad S c)) m
theorem sg_sq {x : Nat} : sg x * sg x = 1 := by
  unfold sg; split <;> grind
theorem io_Wd {m : Nat} {r : Nat → Rat} {w : (Nat → Bool) → Rat} {S : Nat → Bool} : io m (Wd m r w) S + Wd m r (io m w) S = sumQ r m * w S := by
  have e1 : io m (Wd m r w) S = sumQ (fun c => sumQ (fun k => if S c = false ∧ ad S c k = true then sg (abv S c m) * sg (abv (ad S c) k m) * r k * w (er (ad S c) k) else 0) m) m := by
    refine sumQ_congr m fun c _ => ?_
    cases h : S c
    · rw [if_neg (by decide)]
      show sg (abv S c m) * sumQ (fun k => if ad S c k = true then sg (abv (ad S c) k m) * r k * w (er (ad S c) k) else 0) m = _
      rw [← sumQ_mul]
      refine sumQ_congr m fun k _ => ?_
      by_cases h2 : ad S c k = true
      · rw [if_pos h2, if_pos ⟨rfl, h2⟩]; grind
      · rw [if_neg h2, if_neg fun z => h2 z.2]; grind
    · rw [if_pos rfl]
      exact (sumQ_zero m fun k _ => if_neg fun z => by cases z.1).symm
  have e2 : Wd m r (io m w) S = sumQ (fun c => sumQ (fun k => if S k = true ∧ er S k c = false then sg (abv S k m) * sg (abv (er S k) c m) * r k * w (ad (er S k) c) else 0) m) m := by
    rw [← sumQ_swap m m (F := fun k c => if S k = true ∧ er S k c = false then sg (abv S k m) * sg (abv (er S k) c m) * r k * w (ad (er S k) c) else 0)]
    refine sumQ_congr m fun k _ => ?_
    by_cases h : S k = true
    · rw [if_pos h]
      show sg (abv S k m) * r k * sumQ (fun c => if er S k c = true then 0 else sg (abv (er S k) c m) * w (ad (er S k) c)) m = _
      rw [← sumQ_mul]
      refine sumQ_congr m fun c _ => ?_
      cases h2 : er S k c
      · rw [if_neg (by decide), if_pos ⟨h, rfl⟩]; grind
      · rw [if_pos rfl, if_neg fun z => by cases z.2]; grind
    · rw [if_neg h]
      exact (sumQ_zero m fun c _ => if_neg fun z => h z.1).symm
  rw [e1, e2, ← sumQ_add, Rat.mul_comm, ← sumQ_mul]
  refine sumQ_congr m fun c hc => ?_
  rw [← sumQ_add, sumQ_single (r := c) m hc fun k hk hn => ?_]
  · cases h : S c
    · rw [if_pos ⟨rfl, ad_same⟩, if_neg (show ¬ (false = true ∧ er S c c = false) from fun z => (by cases z.1)), er_ad h, abv_self (S := ad S c) (T := S) (fun i hi => ad_ne hi) m]
      have := sg_sq (x := abv S c m)
      grind
    · rw [if_neg (show ¬ (true = false ∧ ad S c c = true) from fun z => (by cases z.1)), if_pos (show true = true ∧ er S c c = false from ⟨rfl, er_same⟩), ad_er h, abv_self (S := er S c) (T := S) (fun i hi => er_ne hi) m]
      have := sg_sq (x := abv S c m)
      grind
  · rw [ad_ne hn, er_ne (fun z => hn z.symm)]
    by_cases h : S c = false ∧ S k = true
    · rw [if_pos h, if_pos ⟨h.2, h.1⟩, er_ad_comm (fun z => hn z.symm)]
      have a1 := abv_er (S := ad S c) (k := c) (l := k) ad_same m
      rw [er_ad h.1] at a1
      have a2 := abv_er (S := S) (k := k) (l := c) h.2 m
      by_cases q : k < c
      · rw [if_pos ⟨q, hc⟩] at a1
        rw [if_neg (show ¬ (c < k ∧ k < m) by omega), Nat.add_zero] at a2
        rw [← a1, ← a2, sg_succ]
        grind
      · rw [if_neg (show ¬ (k < c ∧ c < m) by omega), Nat.add_zero] at a1
        rw [if_pos (show c < k ∧ k < m by omega)] at a2
        rw [← a1, ← a2, sg_succ]
        grind
    · rw [if_neg h, if_neg fun z => h ⟨z.2, z.1⟩]; grind
def crd (S : Nat → Bool) (m : Nat) : Nat := sumK (fun i => if S i = true then 1 else 0) m
theorem crd_er {S : Nat → Bool} {c : Nat} (hc : S c = true) : ∀ m, c < m → crd (er S c) m + 1 = crd S m := by
  have key : ∀ m, m ≤ c → crd (er S c) m = crd S m := by
    intro m
    induction m with
    | zero => intro _; rfl
    | succ m ih => intro h; show crd (er S c) m + (if er S c m = true then 1 else 0) = crd S m + (if S m = true then 1 else 0); rw [ih (by omega), er_ne (by omega)]
  intro m
  induction m with
  | zero => intro h; exact absurd h (Nat.not_lt_zero _)
  | succ m ih =>
    intro h
    show crd (er S c) m + (if er S c m = true then 1 else 0) + 1 = crd S m + (if S m = true then 1 else 0)
    by_cases e : c = m
    · rw [← e, key c (Nat.le_refl c), er_same, hc]; rfl
    · rw [er_ne (fun z => e z.symm)]
      have := ih (by omega)
      omega
theorem io_wed {m : Nat} {R : Nat → Nat → Rat} : ∀ k, (∀ a, a < k → sumQ (R a) m = 0) → ∀ S, crd S m + 1 = k → io m (wed m R k) S = 0 := by
  intro k
  induction k with
  | zero => intro _ S h; omega
  | succ k ih =>
    intro h S hS
    have e := io_Wd (m := m) (r := R k) (w := wed m R k) (S := S)
    rw [h k (by omega)] at e
    have z : Wd m (R k) (io m (wed m R k)) S = 0 := sumQ_zero m fun c hc => by
      by_cases hs : S c = true
      · rw [if_pos hs, ih (fun a ha => h a (by omega)) (er S c) (by have := crd_er hs m hc; omega)]; grind
      · rw [if_neg hs]
    rw [z] at e
    show io m (Wd m (R k) (wed m R k)) S = 0
    grind
/-- rows whose sums are 0: no determinant -/
theorem wed_sums0 {W : Nat} {R : Nat → Nat → Rat} (h : ∀ a, a < W + 1 → sumQ (R a) (W + 1) = 0) : wed (W + 1) R (W + 1) (full (W + 1)) = 0 := by
  have hc : ∀ m, m ≤ W + 1 → crd (full (W + 1)) m = m := by
    intro m
    induction m with
    | zero => intro _; rfl
    | succ m ih =>
      intro hm
      show crd (full (W + 1)) m + (if full (W + 1) m = true then 1 else 0) = m + 1
      rw [ih (by omega), show full (W + 1) m = true from decide_eq_true (by omega)]; rfl
  have f0 : full (W + 1) 0 = true := decide_eq_true (by omega)
  have hcr := crd_er f0 (W + 1) (by omega)
  rw [hc _ (Nat.le_refl _)] at hcr
  have e := io_wed (m := W + 1) (R := R) (W + 1) h (er (full (W + 1)) 0) hcr
  have e2 : io (W + 1) (wed (W + 1) R (W + 1)) (er (full (W + 1)) 0) = sg (abv (er (full (W + 1)) 0) 0 (W + 1)) * wed (W + 1) R (W + 1) (full (W + 1)) := by
    show sumQ _ (W + 1) = _
    rw [sumQ_single (r := 0) (W + 1) (by omega) fun c hc hn => ?_]
    · rw [er_same, if_neg (by decide), ad_er f0]
    · rw [er_ne hn, if_pos (show full (W + 1) c = true from decide_eq_true hc)]
  rw [e2] at e
  have := sg_sq (x := abv (er (full (W + 1)) 0) 0 (W + 1))
  rcases Rat.mul_eq_zero.mp e with q | q
  · rw [q] at this; grind
  · exact q
/-- a sum of rows in place of row j -/
theorem wed_sum {m k j : Nat} {R : Nat → Nat → Rat} {c : Nat → Rat} {g : Nat → Nat → Rat} {S : Nat → Bool} (hj : j < k) : ∀ L, wed m (upR R j (fun q => sumQ (fun l => c l * g l q) L)) k S = sumQ (fun l => c l * wed m (upR R j (g l)) k S) L := by
  intro L
  induction L with
  | zero =>
    refine wed_rowZero (a := j) k hj S fun q _ _ => ?_
    rw [show upR R j (fun q => sumQ (fun l => c l * g l q) 0) j = fun q => sumQ (fun l => c l * g l q) 0 from if_pos rfl]
    rfl
  | succ L ih =>
    show wed m (upR R j (fun q => sumQ (fun l => c l * g l q) L + c L * g L q)) k S = sumQ (fun l => c l * wed m (upR R j (g l)) k S) L + c L * wed m (upR R j (g L)) k S
    rw [wed_lin k hj S, ih]
theorem upR_comm {R : Nat → Nat → Rat} {i j : Nat} {r s : Nat → Rat} (h : i ≠ j) : upR (upR R i r) j s = upR (upR R j s) i r := by
  funext a
  show (if a = j then s else if a = i then r else R a) = (if a = i then r else if a = j then s else R a)
  by_cases e : a = j <;> by_cases e2 : a = i
  · exact absurd (e2.symm.trans e) h
  · rw [if_pos e, if_neg e2, if_pos e]
  · rw [if_neg e, if_pos e2, if_pos e2]
  · rw [if_neg e, if_neg e2, if_neg e2, if_neg e]
theorem upR_own {R : Nat → Nat → Rat} {i : Nat} : upR R i (R i) = R := by
  funext a
  show (if a = i then R i else R a) = R a
  by_cases h : a = i
  · rw [if_pos h, h]
  · rw [if_neg h]
/-- two rows change places -/
theorem wed_swp {m k i j : Nat} {R : Nat → Nat → Rat} {r s : Nat → Rat} {S : Nat → Bool} (hi : i < k) (hj : j < k) (hij : i ≠ j) : wed m (upR (upR R i r) j s) k S = - wed m (upR (upR R i s) j r) k S := by
  have two : ∀ x : Nat → Rat, wed m (upR (upR R i x) j x) k S = 0 := fun x => by
    have h1 : upR (upR R i x) j x i = x := by
      show (if i = j then x else if i = i then x else R i) = x
      rw [if_neg hij, if_pos rfl]
    have h2 : upR (upR R i x) j x j = x := if_pos rfl
    rcases Nat.lt_or_gt_of_ne hij with h | h
    · exact wed_two h (h1.trans h2.symm) k hj S
    · exact wed_two h (h2.trans h1.symm) k hi S
  have h := two (fun q => r q + 1 * s q)
  rw [wed_lin k hj S, upR_comm hij, wed_lin k hi S, ← upR_comm (R := R) hij, ← upR_comm (R := R) hij, upR_comm (s := s) hij, wed_lin k hi S, ← upR_comm (R := R) hij, ← upR_comm (R := R) hij, two r, two s] at h
  grind
/-- the rows depend: what they give in another's place goes as their weights -/
theorem wed_dep {m i j : Nat} {R : Nat → Nat → Rat} {p v : Nat → Rat} (hi : i < m) (hj : j < m) (hij : i ≠ j) (hd : ∀ q, q < m → sumQ (fun l => p l * R l q) m = 0) : p j * wed m (upR R i v) m (full m) = p i * wed m (upR R j v) m (full m) := by
  have h := wed_sum (m := m) (k := m) (j := j) (R := upR R i v) (c := p) (g := R) (S := full m) hj m
  rw [wed_rowZero (a := j) m hj (full m) fun q hq _ => ?_] at h
  · have e : ∀ l, l < m → p l * wed m (upR (upR R i v) j (R l)) m (full m) = (if l = j then p j * wed m (upR R i v) m (full m) else 0) + (if l = i then -(p i * wed m (upR R j v) m (full m)) else 0) := by
      intro l hl
      by_cases e1 : l = j
      · subst e1
        have : upR (upR R i v) l (R l) = upR R i v := by
          have := upR_own (R := upR R i v) (i := l)
          rw [show upR R i v l = R l from if_neg (fun z => hij z.symm)] at this
          exact this
        rw [if_pos rfl, if_neg (fun z => hij z.symm), this]
        grind
      · by_cases e2 : l = i
        · subst e2
          rw [if_neg e1, if_pos rfl, wed_swp hi hj hij, upR_own]
          grind
        · rw [if_neg e1, if_neg e2]
          have h1 : upR (upR R i v) j (R l) l = R l := by
            show (if l = j then R l else if l = i then v else R l) = R l
            rw [if_neg e1, if_neg e2]
          have h2 : upR (upR R i v) j (R l) j = R l := if_pos rfl
          have z : wed m (upR (upR R i v) j (R l)) m (full m) = 0 := by
            rcases Nat.lt_or_gt_of_ne e1 with h | h
            · exact wed_two h (h1.trans h2.symm) m hj _
            · exact wed_two h (h2.trans h1.symm) m hl _
          rw [z]
          grind
    rw [sumQ_congr m e, sumQ_add, sumQ_single (r := j) m hj (fun c _ hn => if_neg hn), sumQ_single (r := i) m hi (fun c _ hn => if_neg hn), if_pos rfl, if_pos rfl] at h
    grind
  · rw [show upR (upR R i v) j (fun q => sumQ (fun l => p l * R l q) m) j = fun q => sumQ (fun l => p l * R l q) m from if_pos rfl]
    exact hd q hq
/-- cofactors go as the weights -/
theorem cof_dep {W i j : Nat} {R : Nat → Nat → Rat} {p : Nat → Rat} (hi : i < W + 1) (hj : j < W + 1) (h0 : ∀ a, a < W + 1 → sumQ (R a) (W + 1) = 0) (hd : ∀ q, q < W + 1 → sumQ (fun l => p l * R l q) (W + 1) = 0) : p j * Dd (fun a c => R (skp i a) (skp i c)) W = p i * Dd (fun a c => R (skp j a) (skp j c)) W := by
  by_cases hij : i = j
  · subst hij; rfl
  have e1 := wed_dep (v := unit j) hi hj hij hd
  rw [wed_unit_full (show j ≤ W by omega)] at e1
  have e2 : wed (W + 1) (upR R i (unit j)) (W + 1) (full (W + 1)) = wed (W + 1) (upR R i (unit i)) (W + 1) (full (W + 1)) := by
    have l := wed_lin (m := W + 1) (R := R) (i := i) (r := unit i) (s := unit j) (c := -1) (W + 1) hi (full (W + 1))
    rw [wed_sums0 fun a ha => ?_] at l
    · grind
    · by_cases e : a = i
      · rw [e, show upR R i (fun q => unit i q + -1 * unit j q) i = (fun q => unit i q + -1 * unit j q) from if_pos rfl, sumQ_add, sumQ_mul, sumQ_single (f := unit i) (r := i) (W + 1) hi (fun c _ hn => if_neg hn), sumQ_single (f := unit j) (r := j) (W + 1) hj (fun c _ hn => if_neg hn), show unit i i = 1 from if_pos rfl, show unit j j = 1 from if_pos rfl]
        grind
      · rw [show upR R i (fun q => unit i q + -1 * unit j q) a = R a from if_neg e]
        exact h0 a ha
  rw [e2, wed_unit_full (show i ≤ W by omega)] at e1
  exact e1
