/-! isEnvelope. -/
def hitS (J : Nat → Int) (i k : Nat) : Nat → Int := sumN (fun l => if J (4 * i) ≤ J (4 * l) ∧ J (4 * l) ≤ J (4 * k) then J (4 * l + 1) else 0)
theorem hit_w {n : Nat} {J : Nat → Int} (hV : VJ n J) {i k o l : Nat} (hl : l < n) (ho : o ≤ l) (h1 : ∀ j, j < n → ((J (4 * i) ≤ J (4 * j) ∧ J (4 * j) ≤ J (4 * k)) ↔ o ≤ j ∧ j ≤ l)) : ∀ m, m ≤ n → hitS J i k m = if m ≤ o then 0 else if m ≤ l + 1 then wTo J m - wTo J o else wTo J (l + 1) - wTo J o
  | 0, _ => by rw [if_pos (Nat.zero_le o)]; rfl
  | m + 1, hm => by
    have ih := hit_w hV hl ho h1 m (by omega)
    have e : hitS J i k (m + 1) = hitS J i k m + if J (4 * i) ≤ J (4 * m) ∧ J (4 * m) ≤ J (4 * k) then J (4 * m + 1) else 0 := rfl
    have ew : wTo J (m + 1) = wTo J m + J (4 * m + 1) := rfl
    rw [e, ih]
    have hm1 := h1 m (by omega)
    by_cases z : o ≤ m ∧ m ≤ l
    · rw [if_pos (hm1.mpr z), if_neg (show ¬ m + 1 ≤ o by omega), if_pos (show m + 1 ≤ l + 1 by omega)]
      by_cases w : m ≤ o
      · have : m = o := by omega
        rw [if_pos w, ew, this]
        omega
      · rw [if_neg w, if_pos (show m ≤ l + 1 by omega), ew]
        omega
    · rw [if_neg (fun w => z (hm1.mp w))]
      by_cases w : m ≤ o
      · rw [if_pos w, if_pos (show m + 1 ≤ o by omega)]
        rfl
      · rw [if_neg w, if_neg (show ¬ m + 1 ≤ o by omega), if_neg (show ¬ m + 1 ≤ l + 1 by omega)]
        by_cases v : m ≤ l + 1
        · have : m = l + 1 := by omega
          rw [if_pos v, this]
          omega
        · rw [if_neg v]
          omega
theorem hit_eq {n : Nat} {J : Nat → Int} (hV : VJ n J) {i k : Nat} (hik : i ≤ k) (hk : k < n) : ∃ o l, o ≤ i ∧ k ≤ l ∧ l < n ∧ J (4 * o) = J (4 * i) ∧ J (4 * l) = J (4 * k) ∧ hitS J i k n = wTo J (l + 1) - wTo J o := by
  obtain ⟨o, o1, o2, o3⟩ := first_of hV i (by omega)
  obtain ⟨l, l1, l2, l3, l4⟩ := last_of (J := J) (n := n) (n - k - 1) k (by omega)
  refine ⟨o, l, o1, l1, l2, o2, l3, ?_⟩
  rw [hit_w (o := o) hV l2 (by omega) (fun j hj => ?_) n (Nat.le_refl n), if_neg (by omega)]
  · by_cases z : n ≤ l + 1
    · rw [if_pos z, show l + 1 = n by omega]
    · rw [if_neg z]
  · constructor
    · rintro ⟨a, b⟩
      refine ⟨Nat.not_lt.mp fun w => ?_, Nat.not_lt.mp fun w => ?_⟩
      · have := o3 j w; omega
      · rcases l4 with v | v
        · omega
        · have h5 := hV.le (i := l) (k := l + 1) (by omega) (by omega)
          have h6 := hV.le (i := l + 1) (k := j) (by omega) hj
          omega
    · rintro ⟨a, b⟩
      have h5 := hV.le a hj
      have h6 := hV.le b l2
      omega
theorem hit_r {n : Nat} {J : Nat → Int} (hV : VJ n J) (i k : Nat) : ∀ m, m ≤ n → 0 ≤ hitS J i k m ∧ hitS J i k m ≤ 40 * (m : Int)
  | 0, _ => ⟨Int.le_refl 0, Int.le_refl 0⟩
  | m + 1, hm => by
    have ih := hit_r hV i k m (by omega)
    have hj := hV.2.1 m (by omega)
    unfold jobOk at hj
    have e : hitS J i k (m + 1) = hitS J i k m + if J (4 * i) ≤ J (4 * m) ∧ J (4 * m) ≤ J (4 * k) then J (4 * m + 1) else 0 := rfl
    rw [e]
    by_cases z : J (4 * i) ≤ J (4 * m) ∧ J (4 * m) ≤ J (4 * k)
    · rw [if_pos z]; omega
    · rw [if_neg z]; omega
def fitL (J : Nat → Int) (n : Nat) (b a p : Int) (i k : Nat) : Prop := hitS J i k n * p ≤ b * p + (J (4 * k) - J (4 * i)) * a
theorem fit_law {n : Nat} {J : Nat → Int} {b a p : Int} (hV : VJ n J) (hp : 0 ≤ p) : fitOk n J b a p ↔ ∀ i k, i ≤ k → k < n → fitL J n b a p i k := by
  refine ⟨fun H i k hik hk => ?_, fun H i k hik hk => ?_⟩
  · obtain ⟨o, l, h1, h2, h3, h4, h5, h6⟩ := hit_eq hV hik hk
    have := H o l (by omega) h3
    unfold fitL
    rw [h6]
    rw [h4, h5, Int.sub_mul] at this
    omega
  · obtain ⟨o, l, h1, h2, h3, h4, h5, h6⟩ := hit_eq hV hik hk
    have := H i k hik hk
    unfold fitL at this
    rw [h6] at this
    have g1 := wTo_mono hV (i := o) (k := i) h1 (by omega)
    have g2 := wTo_mono hV (i := k + 1) (k := l + 1) (by omega) (by omega)
    have g3 : (wTo J (k + 1) - wTo J i) * p ≤ (wTo J (l + 1) - wTo J o) * p := Int.mul_le_mul_of_nonneg_right (by omega) hp
    rw [Int.sub_mul]
    omega
theorem zand0 (x : Int) : zand x 0 = 0 := by
  unfold zand
  rw [show ((0 : Int) % 4294967296).toNat = 0 from rfl, Nat.and_zero]
  rfl
theorem zand01 {x : Int} (h : x = 0 ∨ x = 1) : zand x 1 = x := by
  rcases h with rfl | rfl <;> decide
section IE
variable {d : Nat} {Q : LQ} {M : Mem} {C : LMem} {J : Nat → Int} {nj : Nat} {r aa bb : Nat} {fa fb : Nat → Int} {b a p : Int} {o12 o13 o14 o15 : Option PV}
theorem ie_45 (hV : VJ nj J) (ha : C aa = (1, 120, fa)) (hb : C bb = (1, 10, fb)) (hfa : ∀ i, i < 4 * nj → fa i = J i) (hfb : fb 0 = (nj : Int)) (hbo : (0 ≤ b ∧ b ≤ 999) ∧ (0 ≤ a ∧ a ≤ 99) ∧ 1 ≤ p ∧ p ≤ 99) {i k : Nat} (hik : i ≤ k) (hk : k < nj) {kc : Nat} {i7 : Int}
    (hN : ∀ x o10 o11, ((x = zand i7 1 ∧ fitL J nj b a p i k) ∨ (x = zand i7 0 ∧ ¬ fitL J nj b a p i k)) → L_W_isEnvelope_36 (d + 130) Q M C kc r aa bb b a p x (i : Int) ((k : Int) + 1) o10 o11 o12 o13 o14 o15) :
    ∀ (u m : Nat), m + u = nj → L_W_isEnvelope_45 (d + 130) Q M C kc r aa bb b a p i7 (i : Int) (k : Int) (hitS J i k m) (m : Int) o12 o13 o14 o15 := by
  have h24 := hV.1
  have eI : fa (4 * (i : Int)).toNat = J (4 * i) := by rw [show (4 * (i : Int)).toNat = 4 * i by omega]; exact hfa _ (by omega)
  have eK : fa (4 * (k : Int)).toNat = J (4 * k) := by rw [show (4 * (k : Int)).toNat = 4 * k by omega]; exact hfa _ (by omega)
  have jI := hV.2.1 i (by omega)
  have jK := hV.2.1 k hk
  unfold jobOk at jI jK
  intro u
  induction u with
  | zero =>
    intro m hm
    obtain rfl : m = nj := by omega
    have h0 := hit_r hV i k m (Nat.le_refl m)
    have p1 := prod_a (x := hitS J i k m) (k := 960) (y := p) (l := 99) ⟨by omega, by omega⟩ ⟨by omega, by omega⟩ (by decide)
    have p2 := prod_a (x := b) (k := 999) (y := p) (l := 99) ⟨by omega, by omega⟩ ⟨by omega, by omega⟩ (by decide)
    have p3 := prod_a (x := J (4 * k) - J (4 * i)) (k := 500) (y := a) (l := 99) ⟨by omega, by omega⟩ ⟨by omega, by omega⟩ (by decide)
    refine b_W_isEnvelope_45 ?_
    simp only [hb, hfb, ha, eI, eK]
    refine ⟨trivial, ⟨by omega, by omega⟩, ⟨by omega, by omega⟩, ⟨by omega, by omega⟩, fun _ => ⟨trivial, ⟨by omega, by omega⟩, ⟨by omega, by omega⟩, ⟨by omega, by omega⟩, ⟨by omega, by omega⟩, fun z => hN _ _ _ (Or.inr ⟨rfl, fun w => ?_⟩), fun z => hN _ _ _ (Or.inl ⟨rfl, ?_⟩)⟩, fun z => absurd (by omega) z⟩
    · unfold fitL at w; omega
    · unfold fitL; omega
  | succ u ih =>
    intro m hm
    have eM : fa (4 * (m : Int)).toNat = J (4 * m) := by rw [show (4 * (m : Int)).toNat = 4 * m by omega]; exact hfa _ (by omega)
    have eM1 : fa (4 * (m : Int) + 1).toNat = J (4 * m + 1) := by rw [show (4 * (m : Int) + 1).toNat = 4 * m + 1 by omega]; exact hfa _ (by omega)
    have jM := hV.2.1 m (by omega)
    unfold jobOk at jM
    have key := ih (m + 1) (by omega)
    have e : hitS J i k (m + 1) = hitS J i k m + if J (4 * i) ≤ J (4 * m) ∧ J (4 * m) ≤ J (4 * k) then J (4 * m + 1) else 0 := rfl
    rw [e] at key
    refine b_W_isEnvelope_45 ?_
    simp only [hb, hfb, ha, eI, eK, eM, eM1]
    refine ⟨trivial, ⟨by omega, by omega⟩, ⟨by omega, by omega⟩, ⟨by omega, by omega⟩, fun z => absurd z (by omega), fun _ => ⟨trivial, ⟨by omega, by omega⟩, ⟨by omega, by omega⟩, ⟨by omega, by omega⟩, ⟨by omega, by omega⟩, fun z => ?_, fun z => ⟨⟨by omega, by omega⟩, ⟨by omega, by omega⟩, fun w => ?_, fun w => ⟨⟨by omega, by omega⟩, ?_⟩⟩⟩⟩
    · rw [if_neg (by omega)] at key; exact key
    · rw [if_neg (by omega)] at key; exact key
    · rw [if_pos (by omega)] at key; exact key
/-- how far the pairs are looked at -/
def fitF (J : Nat → Int) (n : Nat) (b a p : Int) (i k : Nat) (x : Int) : Prop := (x = 1 ∧ ∀ i' k', (i' < i ∨ (i' = i ∧ k' < k)) → i' ≤ k' → k' < n → fitL J n b a p i' k') ∨ (x = 0 ∧ ∃ i' k', i' ≤ k' ∧ k' < n ∧ ¬ fitL J n b a p i' k')
theorem ie_36 (hV : VJ nj J) (ha : C aa = (1, 120, fa)) (hb : C bb = (1, 10, fb)) (hfa : ∀ i, i < 4 * nj → fa i = J i) (hfb : fb 0 = (nj : Int)) (hbo : (0 ≤ b ∧ b ≤ 999) ∧ (0 ≤ a ∧ a ≤ 99) ∧ 1 ≤ p ∧ p ≤ 99) {i : Nat} (hi : i < nj) {kc : Nat}
    (hN : ∀ x o9 o10 o11, fitF J nj b a p (i + 1) (i + 1) x → L_W_isEnvelope_29 (d + 130) Q M C kc r aa bb b a p x ((i : Int) + 1) o9 o10 o11 o12 o13 o14 o15) :
    ∀ (u k : Nat) (x : Int) (o10 o11 : Option PV), k + u = nj → i ≤ k → fitF J nj b a p i k x → L_W_isEnvelope_36 (d + 130) Q M C kc r aa bb b a p x (i : Int) (k : Int) o10 o11 o12 o13 o14 o15 := by
  have h24 := hV.1
  intro u
  induction u with
  | zero =>
    intro k x o10 o11 hk hik hx
    obtain rfl : k = nj := by omega
    refine b_W_isEnvelope_36 ?_
    simp only [hb, hfb]
    refine ⟨trivial, ⟨by omega, by omega⟩, ⟨by omega, by omega⟩, ⟨by omega, by omega⟩, fun _ => hN _ _ _ _ ?_, fun z => absurd (by omega) z⟩
    rcases hx with ⟨h1, h2⟩ | h
    · refine Or.inl ⟨h1, fun i' k' h3 h4 h5 => h2 i' k' ?_ h4 h5⟩
      omega
    · exact Or.inr h
  | succ u ih =>
    intro k x o10 o11 hk hik hx
    refine b_W_isEnvelope_36 ?_
    simp only [hb, hfb]
    refine ⟨trivial, ⟨by omega, by omega⟩, ⟨by omega, by omega⟩, ⟨by omega, by omega⟩, fun z => absurd z (by omega), fun _ => ?_⟩
    refine ie_45 hV ha hb hfa hfb hbo hik (by omega) (fun y o10 o11 hy => ?_) nj 0 (by omega)
    refine ih (k + 1) y o10 o11 (by omega) (by omega) ?_
    rcases hx with ⟨h1, h2⟩ | ⟨h1, h2⟩
    · rcases hy with ⟨g1, g2⟩ | ⟨g1, g2⟩
      · refine Or.inl ⟨by rw [g1, h1]; decide, fun i' k' h3 h4 h5 => ?_⟩
        by_cases w : i' = i ∧ k' = k
        · rw [w.1, w.2]; exact g2
        · exact h2 i' k' (by omega) h4 h5
      · exact Or.inr ⟨by rw [g1, zand0], i, k, hik, by omega, g2⟩
    · refine Or.inr ⟨?_, h2⟩
      rcases hy with ⟨g1, g2⟩ | ⟨g1, g2⟩
      · rw [g1, h1]; decide
      · rw [g1, zand0]
end IE
