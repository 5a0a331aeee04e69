/-! What the machine of tokens makes of a text that grows. -/
theorem rnn_run {P : Int → Bool} {t : Nat → Int} {n : Nat} : ∀ (len i : Nat), (∀ k, k < len → P (t (i + k)) = true) → i + len ≤ n → (i + len < n → ¬ P (t (i + len)) = true) → rnn P t n i = i + len
  | 0, i, _, _, h3 => rnn_st fun z => h3 z.1 z.2
  | len + 1, i, h1, h2, h3 => by
    have h0 := h1 0 (by omega)
    rw [Nat.add_zero] at h0
    rw [rnn_go (by omega) h0, rnn_run len (i + 1) (fun k hk => by have := h1 (k + 1) (by omega); rw [show i + 1 + k = i + (k + 1) by omega]; exact this) (by omega) (fun hz => by rw [show i + 1 + len = i + (len + 1) by omega] at hz ⊢; exact h3 hz)]
    omega
/-- what may follow: behind digits (1) no digit, behind letters (2) no letter -/
def okc (cls : Nat) (v : Int) : Prop := (cls = 1 → ¬ isD v = true) ∧ (cls = 2 → ¬ isL v = true)
def TX (f : Nat → Int) (i st c cls : Nat) (F : (Nat → Int) → Nat → Int) : Prop := ∀ (t : Nat → Int) (n : Nat) (T0 : Nat → Int), (∀ k, k < i → t k = f k) → i ≤ n → (i < n → okc cls (t i)) → ∃ a, stpN t n a (0, skB t n 0, 0, T0) = (st, skB t n i, c, F T0)
theorem TX.nil {f : Nat → Int} : TX f 0 0 0 0 (fun T => T) := fun t n T0 _ _ _ => ⟨0, rfl⟩
theorem TX.congr {f g : Nat → Int} {i st c cls : Nat} {F : (Nat → Int) → Nat → Int} (h : TX f i st c cls F) (e : ∀ k, k < i → g k = f k) : TX g i st c cls F := fun t n T0 h1 h2 h3 => h t n T0 (fun k hk => (h1 k hk).trans (e k hk)) h2 h3
theorem TX.blank {f : Nat → Int} {i st c cls : Nat} {F : (Nat → Int) → Nat → Int} (h : TX f i st c cls F) (hb : f i = 32) : TX f (i + 1) st c 0 F := fun t n T0 h1 h2 h3 => by
  have ht : t i = 32 := (h1 i (Nat.lt_succ_self i)).trans hb
  obtain ⟨a, ha⟩ := h t n T0 (fun k hk => h1 k (by omega)) (by omega) (fun _ => by
    rw [ht]
    exact ⟨fun _ => by decide, fun _ => by decide⟩)
  refine ⟨a, ?_⟩
  rw [ha]
  have : skB t n i = skB t n (i + 1) := rnn_go (by omega) (by rw [ht]; rfl)
  rw [this]
/-- one step of the machine -/
theorem TX.step {f : Nat → Int} {i st c cls len st' c' cls' : Nat} {F F' : (Nat → Int) → Nat → Int} (h : TX f i st c cls F) (hl : 0 < len) (h0 : okc cls (f i) ∧ ¬ f i = 32) (hst : st < 9)
    (hs : ∀ (t : Nat → Int) (n : Nat) (T : Nat → Int), (∀ k, k < len → t (i + k) = f (i + k)) → i + len ≤ n → (i + len < n → okc cls' (t (i + len))) → trn t n (st, i, c, F T) = (st', skB t n (i + len), c', F' T)) : TX f (i + len) st' c' cls' F' := fun t n T0 h1 h2 h3 => by
  have hti := h1 i (by omega)
  obtain ⟨a, ha⟩ := h t n T0 (fun k hk => h1 k (by omega)) (by omega) (fun _ => by rw [hti]; exact h0.1)
  have hsk : skB t n i = i := rnn_st fun z => h0.2 (by have := isB_iff.mp z.2; rw [hti] at this; exact this)
  refine ⟨a + 1, ?_⟩
  rw [stpN_add, ha, hsk]
  show stp t n (st, i, c, F T0) = _
  unfold stp
  rw [if_pos ⟨show i < n by omega, hst⟩]
  exact hs t n T0 (fun k hk => h1 (i + k) (by omega)) h2 h3
/-- a word stands in the row -/
def wordAt (f : Nat → Int) (i k : Nat) : Prop := ∀ (m : Nat) (v : Int), nth (wordL k) m = some v → f (i + m) = v
theorem nth_at {f : Nat → Int} {i k m : Nat} {v : Int} (h : wordAt f i k) (hv : nth (wordL k) m = some v) : f (i + m) = v := h m v hv
theorem isW_at {t : Nat → Int} {i k e : Nat} (h : wordAt t i k) (he : e = i + (wordL k).length) : isW t k i e = true := by
  unfold isW
  rw [decide_eq_true he, Bool.true_and]
  exact (wEq_iff _ _).mpr h
theorem isW_no {t : Nat → Int} {i k e : Nat} {v : Int} (hv : nth (wordL k) 0 = some v) (hn : t i ≠ v) : ¬ isW t k i e = true := fun z => by
  unfold isW at z
  rw [Bool.and_eq_true] at z
  exact hn ((wEq_iff _ _).mp z.2 0 v hv)
theorem wordAt.cp {f t : Nat → Int} {i k : Nat} (h : wordAt f i k) (e : ∀ m, m < (wordL k).length → t (i + m) = f (i + m)) : wordAt t i k := fun m v hv => by
  rw [e m (nth_some_lt _ _ _ hv)]
  exact h m v hv
theorem te_word {t : Nat → Int} {n i k : Nat} (hk : 1 ≤ k ∧ k ≤ 4) (h : wordAt t i k) (hn : i + (wordL k).length ≤ n) (he : i + (wordL k).length < n → okc 2 (t (i + (wordL k).length))) : te t n i = i + (wordL k).length := by
  have hL : ∀ m, m < (wordL k).length → isL (t (i + m)) = true := by
    have key : ∀ k, k < 5 → 1 ≤ k → (wordL k).all isL = true := by decide
    intro m hm
    obtain ⟨v, hv⟩ := nth_len (wordL k) m hm
    rw [h m v hv]
    exact List.all_eq_true.mp (key k (by omega) hk.1) v (nth_mem _ _ _ hv)
  have hpos : 0 < (wordL k).length := by
    rcases (show k = 1 ∨ k = 2 ∨ k = 3 ∨ k = 4 by omega) with rfl | rfl | rfl | rfl <;> decide
  have h0 := hL 0 hpos
  rw [Nat.add_zero] at h0
  have hr := rnn_run (P := isL) (t := t) (n := n) _ i hL hn (fun z => (he z).2 rfl)
  have hd : rnn isD t n i = i := rnn_st fun z => by
    have a := isL_iff.mp h0
    have b := isD_iff.mp z.2
    omega
  unfold te
  rw [hd, if_neg (Nat.lt_irrefl i), hr, if_pos (by omega)]
theorem te_num {t : Nat → Int} {n i len : Nat} (hl : 0 < len) (h : ∀ k, k < len → isD (t (i + k)) = true) (hn : i + len ≤ n) (he : i + len < n → okc 1 (t (i + len))) : te t n i = i + len := by
  have hr := rnn_run (P := isD) (t := t) (n := n) len i h hn (fun z => (he z).1 rfl)
  unfold te
  rw [hr, if_pos (by omega)]
theorem te_semi {t : Nat → Int} {n i : Nat} (h : t i = 59) : te t n i = i + 1 := by
  have hd : rnn isD t n i = i := rnn_st fun z => by
    have b := isD_iff.mp z.2
    omega
  have hl : rnn isL t n i = i := rnn_st fun z => by
    have b := isL_iff.mp z.2
    omega
  unfold te
  rw [hd, if_neg (Nat.lt_irrefl i), hl, if_neg (Nat.lt_irrefl i)]
section TXS
variable {f : Nat → Int} {i c cls : Nat} {F : (Nat → Int) → Nat → Int}
theorem w_first {f : Nat → Int} {i k : Nat} {v : Int} (h : wordAt f i k) (hv : nth (wordL k) 0 = some v) : f i = v := by
  have := h 0 v hv
  rw [Nat.add_zero] at this
  exact this
theorem TX.at_ (h : TX f i 0 c cls F) (hw : wordAt f i 1) (hc : okc cls 97) : TX f (i + 2) 1 c 2 (fun T => sr (sr (F T) (4 * c + 2) 0) (4 * c + 3) 1) := by
  have h1 := w_first hw (v := 97) rfl
  refine h.step (len := 2) (by decide) ⟨by rw [h1]; exact hc, by rw [h1]; decide⟩ (by decide) fun t n T e1 e2 e3 => ?_
  have w := hw.cp e1
  have ht := te_word (n := n) ⟨by decide, by decide⟩ w e2 e3
  show (if isW t 1 i (te t n i) = true then (1, skB t n (te t n i), c, sr (sr (F T) (4 * c + 2) 0) (4 * c + 3) 1) else (9, i, c, F T)) = _
  rw [if_pos (isW_at w ht), ht]
  rfl
theorem TX.takes (h : TX f i 2 c cls F) (hw : wordAt f i 2) (hc : okc cls 116) : TX f (i + 5) 3 c 2 F := by
  have h1 := w_first hw (v := 116) rfl
  refine h.step (len := 5) (by decide) ⟨by rw [h1]; exact hc, by rw [h1]; decide⟩ (by decide) fun t n T e1 e2 e3 => ?_
  have w := hw.cp e1
  have ht := te_word (n := n) ⟨by decide, by decide⟩ w e2 e3
  show (if isW t 2 i (te t n i) = true then (3, skB t n (te t n i), c, F T) else (9, i, c, F T)) = _
  rw [if_pos (isW_at w ht), ht]
  rfl
theorem TX.kind (h : TX f i 4 c cls F) (hw : wordAt f i 3) (hc : okc cls 107) : TX f (i + 4) 5 c 2 F := by
  have h1 := w_first hw (v := 107) rfl
  refine h.step (len := 4) (by decide) ⟨by rw [h1]; exact hc, by rw [h1]; decide⟩ (by decide) fun t n T e1 e2 e3 => ?_
  have w := hw.cp e1
  have ht := te_word (n := n) ⟨by decide, by decide⟩ w e2 e3
  show (if isW t 3 i (te t n i) = true then (5, skB t n (te t n i), c, F T) else pKind t n i c (F T)) = _
  rw [if_pos (isW_at w ht), ht]
  rfl
theorem TX.weighs {st : Nat} (h : TX f i st c cls F) (hst : st = 4 ∨ st = 6) (hw : wordAt f i 4) (hc : okc cls 119) : TX f (i + 6) 7 c 2 F := by
  have h1 := w_first hw (v := 119) rfl
  refine h.step (len := 6) (by decide) ⟨by rw [h1]; exact hc, by rw [h1]; decide⟩ (by omega) fun t n T e1 e2 e3 => ?_
  have w := hw.cp e1
  have ht := te_word (n := n) ⟨by decide, by decide⟩ w e2 e3
  have hp : pKind t n i c (F T) = (7, skB t n (i + 6), c, F T) := by
    unfold pKind
    rw [if_pos (isW_at w ht), ht]
    rfl
  have ti := w_first w (v := 119) rfl
  rcases hst with rfl | rfl
  · show (if isW t 3 i (te t n i) = true then (5, skB t n (te t n i), c, F T) else pKind t n i c (F T)) = _
    rw [if_neg (isW_no (v := 107) rfl (by rw [ti]; decide))]
    exact hp
  · exact hp
theorem TX.semi {st : Nat} (h : TX f i st c cls F) (hst : st = 4 ∨ st = 6 ∨ st = 8) (hw : f i = 59) : TX f (i + 1) 0 (c + 1) 0 F := by
  refine h.step (len := 1) (by decide) ⟨by rw [hw]; exact ⟨fun _ => by decide, fun _ => by decide⟩, by rw [hw]; decide⟩ (by omega) fun t n T e1 e2 e3 => ?_
  have ti : t i = 59 := by have := e1 0 (by decide); rw [Nat.add_zero] at this; exact this.trans hw
  have ht := te_semi (n := n) ti
  have w5 : wordAt t i 5 := fun m v hv => by
    match m, hv with
    | 0, hv => cases hv; exact ti
    | m + 1, hv => cases hv
  have hp : pEnd t n i c (F T) = (0, skB t n (i + 1), c + 1, F T) := by
    unfold pEnd
    rw [if_pos (isW_at w5 ht), ht]
  have hk : pKind t n i c (F T) = (0, skB t n (i + 1), c + 1, F T) := by
    unfold pKind
    rw [if_neg (isW_no (v := 119) rfl (by rw [ti]; decide))]
    exact hp
  rcases hst with rfl | rfl | rfl
  · show (if isW t 3 i (te t n i) = true then (5, skB t n (te t n i), c, F T) else pKind t n i c (F T)) = _
    rw [if_neg (isW_no (v := 107) rfl (by rw [ti]; decide))]
    exact hk
  · exact hk
  · exact hp
/-- digits that tell a number -/
def numAt (f : Nat → Int) (i len : Nat) (v : Int) : Prop := (1 ≤ len ∧ len ≤ 4) ∧ (∀ k, k < len → 48 ≤ f (i + k) ∧ f (i + k) ≤ 57) ∧ nv f i len = v
theorem nv_congr {t u : Nat → Int} {s : Nat} : ∀ k, (∀ i, i < k → t (s + i) = u (s + i)) → nv t s k = nv u s k
  | 0, _ => rfl
  | k + 1, h => by
    show nv t s k * 10 + t (s + k) - 48 = nv u s k * 10 + u (s + k) - 48
    rw [nv_congr k (fun i hi => h i (by omega)), h k (by omega)]
theorem TX.num {st p len : Nat} {v : Int} (h : TX f i st c cls F) (hst : (st = 1 ∧ p = 0) ∨ (st = 3 ∧ p = 1) ∨ (st = 5 ∧ p = 2) ∨ (st = 7 ∧ p = 3)) (hw : numAt f i len v) (hc : cls ≠ 1) : TX f (i + len) (st + 1) c 1 (fun T => sr (F T) (4 * c + p) v) := by
  obtain ⟨hl, hd, hv⟩ := hw
  have h0 := hd 0 (by omega)
  rw [Nat.add_zero] at h0
  refine h.step (len := len) (by omega) ⟨⟨fun z => absurd z hc, fun _ z => by have := isL_iff.mp z; omega⟩, by omega⟩ (by omega) fun t n T e1 e2 e3 => ?_
  have e0 := e1 0 (by omega)
  rw [Nat.add_zero] at e0
  have ht := te_num (n := n) (i := i) (len := len) (t := t) (by omega) (fun k hk => isD_iff.mpr (by rw [e1 k hk]; exact hd k hk)) e2 e3
  have hp : pNum t n (st + 1) p i c (F T) = (st + 1, skB t n (i + len), c, sr (F T) (4 * c + p) v) := by
    unfold pNum
    rw [ht, if_pos ⟨by omega, isD_iff.mpr (by rw [e0]; exact h0)⟩, show i + len - i = len by omega, nv_congr len e1, hv]
  rcases hst with ⟨rfl, rfl⟩ | ⟨rfl, rfl⟩ | ⟨rfl, rfl⟩ | ⟨rfl, rfl⟩ <;> exact hp
end TXS
