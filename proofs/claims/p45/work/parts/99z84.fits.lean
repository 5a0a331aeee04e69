/-! fits: both sides. -/
def wTo (J : Nat → Int) : Nat → Int
  | 0 => 0
  | k + 1 => wTo J k + J (4 * k + 1)
def sT (J : Nat → Int) (t : Int) : Nat → Int
  | 0 => 0
  | k + 1 => sT J t k + (if J (4 * k) < t then 0 else J (4 * k + 1))
def fitOk (n : Nat) (J : Nat → Int) (b a p : Int) : Prop := ∀ i k, i ≤ k → k < n → (wTo J (k + 1) - wTo J i - b) * p ≤ (J (4 * k) - J (4 * i)) * a
def fitC (n : Nat) (J : Nat → Int) (b a p : Int) (i k : Nat) : Prop := (k + 1 = n ∨ J (4 * (k + 1)) ≠ J (4 * k)) → J (4 * i) ≤ J (4 * k) → sT J (J (4 * i)) (k + 1) * p ≤ b * p + (J (4 * k) - J (4 * i)) * a
theorem VJ.le {n : Nat} {J : Nat → Int} (h : VJ n J) {i k : Nat} (hik : i ≤ k) (hk : k < n) : J (4 * i) ≤ J (4 * k) := by
  induction k with
  | zero => rw [show i = 0 by omega]; exact Int.le_refl _
  | succ k ih =>
    by_cases e : i = k + 1
    · rw [e]; exact Int.le_refl _
    · exact Int.le_trans (ih (by omega) (by omega)) (h.2.2 k (by omega))
theorem wTo_r {n : Nat} {J : Nat → Int} (h : VJ n J) : ∀ k, k ≤ n → 0 ≤ wTo J k ∧ wTo J k ≤ 40 * (k : Int) := by
  intro k
  induction k with
  | zero => intro _; exact ⟨Int.le_refl 0, by show (0 : Int) ≤ 40 * ((0 : Nat) : Int); omega⟩
  | succ k ih =>
    intro hk
    have := ih (by omega)
    have := (h.2.1 k (by omega)).2.1
    show 0 ≤ wTo J k + J (4 * k + 1) ∧ wTo J k + J (4 * k + 1) ≤ 40 * ((k + 1 : Nat) : Int)
    omega
theorem wTo_mono {n : Nat} {J : Nat → Int} (h : VJ n J) {i k : Nat} (hik : i ≤ k) (hk : k ≤ n) : wTo J i ≤ wTo J k := by
  induction k with
  | zero => rw [show i = 0 by omega]; exact Int.le_refl _
  | succ k ih =>
    by_cases e : i = k + 1
    · rw [e]; exact Int.le_refl _
    · have := ih (by omega) (by omega)
      have := (h.2.1 k (by omega)).2.1
      show wTo J i ≤ wTo J k + J (4 * k + 1)
      omega
theorem sT_r {n : Nat} {J : Nat → Int} {t : Int} (h : VJ n J) : ∀ k, k ≤ n → 0 ≤ sT J t k ∧ sT J t k ≤ 40 * (k : Int) := by
  intro k
  induction k with
  | zero => intro _; exact ⟨Int.le_refl 0, by show (0 : Int) ≤ 40 * ((0 : Nat) : Int); omega⟩
  | succ k ih =>
    intro hk
    have := ih (by omega)
    have := (h.2.1 k (by omega)).2.1
    show 0 ≤ sT J t k + (if J (4 * k) < t then 0 else J (4 * k + 1)) ∧ sT J t k + (if J (4 * k) < t then 0 else J (4 * k + 1)) ≤ 40 * ((k + 1 : Nat) : Int)
    split <;> omega
theorem sT_w {J : Nat → Int} {t : Int} {o : Nat} (h1 : ∀ j, j < o → J (4 * j) < t) : ∀ k, (∀ j, o ≤ j → j < k → ¬ J (4 * j) < t) → sT J t k = if k ≤ o then 0 else wTo J k - wTo J o := by
  intro k
  induction k with
  | zero => intro _; rw [if_pos (Nat.zero_le _)]; rfl
  | succ k ih =>
    intro h2
    have e := ih fun j a b => h2 j a (by omega)
    show sT J t k + (if J (4 * k) < t then 0 else J (4 * k + 1)) = if k + 1 ≤ o then 0 else wTo J k + J (4 * k + 1) - wTo J o
    by_cases c : k < o
    · rw [e, if_pos (by omega), if_pos (h1 k c), if_pos (by omega)]; rfl
    · rw [e, if_neg (h2 k (by omega) (by omega)), if_neg (show ¬ k + 1 ≤ o by omega)]
      by_cases c2 : k ≤ o
      · rw [if_pos c2, show k = o by omega]; omega
      · rw [if_neg c2]; omega
theorem first_of {n : Nat} {J : Nat → Int} (h : VJ n J) : ∀ i, i < n → ∃ o, o ≤ i ∧ J (4 * o) = J (4 * i) ∧ ∀ j, j < o → J (4 * j) < J (4 * i) := by
  intro i
  induction i with
  | zero => intro _; exact ⟨0, Nat.le_refl 0, rfl, fun j hj => absurd hj (Nat.not_lt_zero j)⟩
  | succ i ih =>
    intro hi
    by_cases e : J (4 * i) = J (4 * (i + 1))
    · obtain ⟨o, h1, h2, h3⟩ := ih (by omega)
      exact ⟨o, by omega, by rw [h2, e], fun j hj => by rw [← e]; exact h3 j hj⟩
    · refine ⟨i + 1, Nat.le_refl _, rfl, fun j hj => ?_⟩
      have h1 := h.le (show j ≤ i by omega) (by omega)
      have h2 := h.2.2 i hi
      omega
theorem last_of {n : Nat} {J : Nat → Int} : ∀ (m k : Nat), k + 1 + m = n → ∃ l, k ≤ l ∧ l < n ∧ J (4 * l) = J (4 * k) ∧ (l + 1 = n ∨ J (4 * (l + 1)) ≠ J (4 * l)) := by
  intro m
  induction m with
  | zero => intro k hk; exact ⟨k, Nat.le_refl k, by omega, rfl, Or.inl (by omega)⟩
  | succ m ih =>
    intro k hk
    by_cases e : J (4 * (k + 1)) = J (4 * k)
    · obtain ⟨l, h1, h2, h3, h4⟩ := ih (k + 1) (by omega)
      exact ⟨l, by omega, h2, by rw [h3, e], h4⟩
    · exact ⟨k, Nat.le_refl k, by omega, rfl, Or.inr e⟩
theorem fit_iff {n : Nat} {J : Nat → Int} {b a p : Int} (h : VJ n J) (hp : 0 ≤ p) : fitOk n J b a p ↔ ∀ i k, i < n → k < n → fitC n J b a p i k := by
  have after : ∀ (i o : Nat), i < n → J (4 * o) = J (4 * i) → ∀ k, k < n → ∀ j, o ≤ j → j < k + 1 → ¬ J (4 * j) < J (4 * i) := fun i o _ ho k hk j h1 h2 h3 => by
    have := h.le h1 (by omega)
    omega
  refine ⟨fun H i k hi hk _ hl => ?_, fun H i k hik hk => ?_⟩
  · obtain ⟨o, h1, h2, h3⟩ := first_of h i hi
    have hok : o ≤ k := Nat.not_lt.mp fun z => by have := h3 k z; omega
    rw [sT_w h3 (k + 1) (after i o hi h2 k hk), if_neg (by omega)]
    have := H o k hok hk
    rw [h2, Int.sub_mul] at this
    omega
  · obtain ⟨o, h1, h2, h3⟩ := first_of h i (by omega)
    obtain ⟨l, k1, k2, k3, k4⟩ := last_of (n := n) (J := J) (n - (k + 1)) k (by omega)
    have := H i l (by omega) k2 k4 (h.le (by omega) k2)
    rw [sT_w h3 (l + 1) (after i o (by omega) h2 l k2), if_neg (by omega), k3] at this
    have m1 := wTo_mono h (show k + 1 ≤ l + 1 by omega) (by omega)
    have m2 := wTo_mono h h1 (by omega)
    have m3 : (wTo J (k + 1) - wTo J i) * p ≤ (wTo J (l + 1) - wTo J o) * p := Int.mul_le_mul_of_nonneg_right (by omega) hp
    rw [Int.sub_mul]
    omega
theorem prod_a {x y k l : Int} (hx : -k ≤ x ∧ x ≤ k) (hy : 0 ≤ y ∧ y ≤ l) (hk : 0 ≤ k) : -(l * k) ≤ x * y ∧ x * y ≤ l * k := by
  have h1 : x * y ≤ k * y := Int.mul_le_mul_of_nonneg_right hx.2 hy.1
  have h2 : k * y ≤ k * l := Int.mul_le_mul_of_nonneg_left hy.2 hk
  have h3 : (-k) * y ≤ x * y := Int.mul_le_mul_of_nonneg_right hx.1 hy.1
  rw [Int.neg_mul] at h3
  rw [Int.mul_comm l k]
  omega
theorem s_Qfits {d : Nat} {M : Mem} {b a p : Int} {n m : Nat} {L B P J : Nat → Int} (hE : CE M b a p n L B P) (hO : eOk b a p n L B P) (hV : VJ m J) (hJ : M 94 = J) (hm : M 117 0 = m) : Post (d + 3) cQ_fits [oQ] M (fun v M' => M' = M ∧ ((v = 1 ∧ fitOk m J b a p) ∨ (v = 0 ∧ ¬ fitOk m J b a p))) := by
  intro Q hQ
  obtain ⟨c0, c1, c2, -, -, -⟩ := hE
  obtain ⟨o1, o2, o3, -, -⟩ := hO
  have h24 := hV.1
  refine e_Q_fits (b_Q_fits_0 ?_)
  refine e_E_holds (b_E_holds_0 ?_)
  have no : ¬ fitOk m J b a p → Rt (.inl 0) (fun v1 => (v1 = 0 ∨ v1 = 1) ∧ (Q (.inl v1) M)) (fun x => Q (.inr x) M) := fun h => ⟨Or.inl rfl, hQ _ _ ⟨rfl, Or.inr ⟨rfl, h⟩⟩⟩
  have yes : fitOk m J b a p → Rt (.inl 1) (fun v1 => (v1 = 0 ∨ v1 = 1) ∧ (Q (.inl v1) M)) (fun x => Q (.inr x) M) := fun h => ⟨Or.inr rfl, hQ _ _ ⟨rfl, Or.inl ⟨rfl, h⟩⟩⟩
  generalize hQQ : (fun (r : Int ⊕ Nat) M1 => Rt r (fun v1 => (v1 = 0 ∨ v1 = 1) ∧ (Q (.inl v1) M1)) (fun x => Q (.inr x) M1)) = QQ
  have no' : ¬ fitOk m J b a p → QQ (.inl 0) M := fun h => by rw [← hQQ]; exact no h
  have yes' : fitOk m J b a p → QQ (.inl 1) M := fun h => by rw [← hQQ]; exact yes h
  clear no yes
  have inner : ∀ (i : Nat), i < m → (∀ o3 o4 o5 o6 o7, L_E_holds_2 (d + 1) QQ M ((i : Int) + 1) o3 o4 o5 o6 o7 ∨ ¬ (∀ k, i ≤ k → k < m → (wTo J (k + 1) - wTo J i - b) * p ≤ (J (4 * k) - J (4 * i)) * a)) → ∀ (f k : Nat), k + f = m → i ≤ k → (∀ k', i ≤ k' → k' < k → (wTo J (k' + 1) - wTo J i - b) * p ≤ (J (4 * k') - J (4 * i)) * a) → ∀ o6 o7, L_E_holds_10 (d + 1) QQ M (i : Int) (wTo J k - wTo J i) (k : Int) o6 o7 := by
    intro i hi nx f
    induction f with
    | zero =>
      intro k hk hik hall o6 o7
      have hk : k = m := by omega
      subst hk
      refine b_E_holds_10 ?_
      rw [hm]
      refine ⟨⟨by omega, by omega⟩, ⟨by omega, by omega⟩, fun _ => ?_, fun z => absurd (Int.le_refl _) z⟩
      rcases nx (some (.inr (.inl (wTo J k - wTo J i)))) none (some (.inl (k : Int))) o6 o7 with h | h
      · exact h
      · exact absurd hall h
    | succ f ih =>
      intro k hk hik hall o6 o7
      refine b_E_holds_10 ?_
      rw [hm]
      refine ⟨⟨by omega, by omega⟩, ⟨by omega, by omega⟩, fun z => absurd z (by omega), fun _ => ?_⟩
      refine (s_Jpart (d := d) (k := k) (p := 1) (by omega) (by decide)).cal fun v1 M1 hM1 => ?_
      obtain ⟨rfl, rfl⟩ := hM1
      have q1 := hV.2.1 k (by omega)
      have q2 := hV.2.1 i (by omega)
      unfold jobOk at q1 q2
      rw [hJ]
      refine ⟨⟨by omega, by omega⟩, ?_⟩
      refine (s_Jpart (d := d) (k := k) (p := 0) (by omega) (by decide)).cal fun v2 M2 hM2 => ?_
      obtain ⟨rfl, rfl⟩ := hM2
      refine (s_Jpart (d := d) (k := i) (p := 0) (by omega) (by decide)).cal fun v3 M3 hM3 => ?_
      obtain ⟨rfl, rfl⟩ := hM3
      rw [hJ, Nat.add_zero, Nat.add_zero, c0, c1, c2]
      have w1 := wTo_r hV k (by omega)
      have w2 := wTo_r hV i (by omega)
      have e : wTo J k - wTo J i + J (4 * k + 1) = wTo J (k + 1) - wTo J i := by
        show wTo J k - wTo J i + J (4 * k + 1) = wTo J k + J (4 * k + 1) - wTo J i
        omega
      have w3 := prod_a (x := wTo J k - wTo J i + J (4 * k + 1) - b) (y := p) (k := 4000) (l := 99) ⟨by omega, by omega⟩ ⟨by omega, by omega⟩ (by decide)
      have w4 := prod_a (x := J (4 * k) - J (4 * i)) (y := a) (k := 500) (l := 99) ⟨by omega, by omega⟩ ⟨by omega, by omega⟩ (by decide)
      refine ⟨⟨by omega, by omega⟩, ⟨by omega, by omega⟩, ⟨by omega, by omega⟩, ⟨by omega, by omega⟩, ⟨by omega, by omega⟩, ⟨by omega, by omega⟩, fun z => ?_, fun z => ?_⟩
      · rw [e] at z ⊢
        rw [show (k : Int) + 1 = ((k + 1 : Nat) : Int) by omega]
        refine ih (k + 1) (by omega) (by omega) (fun k' h1 h2 => ?_) _ _
        by_cases ee : k' = k
        · rw [ee]; exact z
        · exact hall k' h1 (by omega)
      · rw [e] at z
        exact no' fun h => z (h i k hik (by omega))
  have outer : ∀ (f i : Nat), i + f = m → (∀ i' k, i' < i → i' ≤ k → k < m → (wTo J (k + 1) - wTo J i' - b) * p ≤ (J (4 * k) - J (4 * i')) * a) → ∀ o3 o4 o5 o6 o7, L_E_holds_2 (d + 1) QQ M (i : Int) o3 o4 o5 o6 o7 := by
    intro f
    induction f with
    | zero =>
      intro i hi hall o3 o4 o5 o6 o7
      refine b_E_holds_2 ?_
      rw [hm]
      exact ⟨⟨by omega, by omega⟩, ⟨by omega, by omega⟩, fun _ => yes' fun i' k h1 h2 => hall i' k (by omega) h1 h2, fun z => absurd (by omega) z⟩
    | succ f ih =>
      intro i hi hall o3 o4 o5 o6 o7
      refine b_E_holds_2 ?_
      rw [hm]
      refine ⟨⟨by omega, by omega⟩, ⟨by omega, by omega⟩, fun z => absurd z (by omega), fun _ => ?_⟩
      have g := inner i (by omega) (fun p3 p4 p5 p6 p7 => ?_) (m - i) i (by omega) (Nat.le_refl i) (fun k' h1 h2 => absurd h1 (by omega)) o6 o7
      · rw [Int.sub_self] at g
        exact g
      · by_cases c : ∀ k, i ≤ k → k < m → (wTo J (k + 1) - wTo J i - b) * p ≤ (J (4 * k) - J (4 * i)) * a
        · refine Or.inl ?_
          have := ih (i + 1) (by omega) (fun i' k h1 h2 h3 => ?_) p3 p4 p5 p6 p7
          · rw [show ((i + 1 : Nat) : Int) = (i : Int) + 1 by omega] at this
            exact this
          · by_cases ee : i' = i
            · rw [ee] at h2 ⊢; exact c k h2 h3
            · exact hall i' k (by omega) h2 h3
        · exact Or.inr c
  exact outer m 0 (by omega) (fun i' k h => absurd h (Nat.not_lt_zero i')) _ _ _ _ _
