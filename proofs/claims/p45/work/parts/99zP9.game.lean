/-! Games: those who choose a line. -/
theorem gPick_min {C S ch : Nat → Int} {b : Int} {l : Nat} (hl : l < 3) : gCost C S ch b (gPick C S ch b) ≤ gCost C S ch b l := by
  unfold gPick
  have h3 : l = 0 ∨ l = 1 ∨ l = 2 := by omega
  by_cases h1 : gCost C S ch b 1 < gCost C S ch b 0
  · rw [if_pos h1]
    by_cases h2 : gCost C S ch b 2 < gCost C S ch b 1
    · rw [if_pos h2]; rcases h3 with rfl | rfl | rfl <;> omega
    · rw [if_neg h2]; rcases h3 with rfl | rfl | rfl <;> omega
  · rw [if_neg h1]
    by_cases h2 : gCost C S ch b 2 < gCost C S ch b 0
    · rw [if_pos h2]; rcases h3 with rfl | rfl | rfl <;> omega
    · rw [if_neg h2]; rcases h3 with rfl | rfl | rfl <;> omega
theorem gB0 {C S : Nat → Int} (h : gOk C S) : ∀ P, gBal C S (gCh C S 0 P)
  | 0 => fun a b _ _ _ h0 => absurd h0 (by show ¬ (0 : Int) < 0; omega)
  | P + 1 => fun a b ha hb hab h0 => by
    have ih := gB0 h P
    have hk := gPick_lt (C := C) (S := S) (ch := gCh C S 0 P) (b := 0)
    have hm : ∀ l, l < 3 → gPay C S (gPick C S (gCh C S 0 P) 0) (gCh C S 0 P (gPick C S (gCh C S 0 P) 0) + 1) ≤ gPay C S l (gCh C S 0 P l + 1) := fun l hl => by
      have := gPick_min (C := C) (S := S) (ch := gCh C S 0 P) (b := 0) hl
      unfold gCost at this
      rw [if_pos rfl, if_pos rfl] at this
      exact this
    revert h0
    show 0 < sr (gCh C S 0 P) (gPick C S (gCh C S 0 P) 0) (gCh C S 0 P (gPick C S (gCh C S 0 P) 0) + 1) a → gPay C S a (sr (gCh C S 0 P) (gPick C S (gCh C S 0 P) 0) (gCh C S 0 P (gPick C S (gCh C S 0 P) 0) + 1) a) ≤ gPay C S b (sr (gCh C S 0 P) (gPick C S (gCh C S 0 P) 0) (gCh C S 0 P (gPick C S (gCh C S 0 P) 0) + 1) b + 1)
    generalize gPick C S (gCh C S 0 P) 0 = k at *
    have hs := (h b hb).2.1
    by_cases e : a = k
    · subst e
      rw [sr_same, sr_ne (Ne.symm hab)]
      exact fun _ => hm b hb
    · rw [sr_ne e]
      intro h0
      by_cases e2 : b = k
      · subst e2
        rw [sr_same]
        have := ih a b ha hb hab h0
        unfold gPay at this ⊢
        have h9 : (gCh C S 0 P b + 1 + 1) * S b = (gCh C S 0 P b + 1) * S b + S b := by rw [Int.add_mul (gCh C S 0 P b + 1) 1, Int.one_mul]
        omega
      · rw [sr_ne e2]
        exact ih a b ha hb hab h0
theorem gCh_sum {C S : Nat → Int} {b : Int} : ∀ P, gCh C S b P 0 + gCh C S b P 1 + gCh C S b P 2 = P
  | 0 => rfl
  | P + 1 => by
    have ih := gCh_sum (C := C) (S := S) (b := b) P
    have hk := gPick_lt (C := C) (S := S) (ch := gCh C S b P) (b := b)
    show sr (gCh C S b P) _ _ 0 + sr (gCh C S b P) _ _ 1 + sr (gCh C S b P) _ _ 2 = ((P + 1 : Nat) : Int)
    rcases (show gPick C S (gCh C S b P) b = 0 ∨ gPick C S (gCh C S b P) b = 1 ∨ gPick C S (gCh C S b P) b = 2 by omega) with e | e | e
    · rw [e, sr_same, sr_ne (by decide), sr_ne (by decide)]; omega
    · rw [e, sr_same, sr_ne (by decide), sr_ne (by decide)]; omega
    · rw [e, sr_same, sr_ne (by decide), sr_ne (by decide)]; omega
def gMg (C S : Nat → Int) (l : Nat) (x : Int) : Int := C l + (2 * x + 1) * S l
theorem gMg_up {C S : Nat → Int} (h : gOk C S) {l : Nat} (hl : l < 3) (x : Int) : gMg C S l x ≤ gMg C S l (x + 1) := by
  have := (h l hl).2.1
  unfold gMg
  rw [show 2 * (x + 1) + 1 = (2 * x + 1) + 2 by omega, Int.add_mul (2 * x + 1) 2]
  omega
theorem gM1 {C S : Nat → Int} (h : gOk C S) : ∀ P a b, a < 3 → b < 3 → 0 < gCh C S 1 P a → gMg C S a (gCh C S 1 P a - 1) ≤ gMg C S b (gCh C S 1 P b)
  | 0 => fun a b _ _ h0 => absurd h0 (by show ¬ (0 : Int) < 0; omega)
  | P + 1 => fun a b ha hb h0 => by
    have ih := gM1 h P
    have hk := gPick_lt (C := C) (S := S) (ch := gCh C S 1 P) (b := 1)
    have hco : ∀ l, gCost C S (gCh C S 1 P) 1 l = gMg C S l (gCh C S 1 P l) := fun l => by
      unfold gCost gMg gPay
      rw [if_neg (by decide)]
      rw [show 2 * gCh C S 1 P l + 1 = (gCh C S 1 P l + 1) + gCh C S 1 P l by omega, Int.add_mul (gCh C S 1 P l + 1) (gCh C S 1 P l)]
      omega
    have hm : ∀ l, l < 3 → gMg C S (gPick C S (gCh C S 1 P) 1) (gCh C S 1 P (gPick C S (gCh C S 1 P) 1)) ≤ gMg C S l (gCh C S 1 P l) := fun l hl => by
      have := gPick_min (C := C) (S := S) (ch := gCh C S 1 P) (b := 1) hl
      rw [hco, hco] at this
      exact this
    revert h0
    show 0 < sr (gCh C S 1 P) (gPick C S (gCh C S 1 P) 1) (gCh C S 1 P (gPick C S (gCh C S 1 P) 1) + 1) a → gMg C S a (sr (gCh C S 1 P) (gPick C S (gCh C S 1 P) 1) (gCh C S 1 P (gPick C S (gCh C S 1 P) 1) + 1) a - 1) ≤ gMg C S b (sr (gCh C S 1 P) (gPick C S (gCh C S 1 P) 1) (gCh C S 1 P (gPick C S (gCh C S 1 P) 1) + 1) b)
    generalize gPick C S (gCh C S 1 P) 1 = k at *
    have hup : gMg C S b (gCh C S 1 P b) ≤ gMg C S b (sr (gCh C S 1 P) k (gCh C S 1 P k + 1) b) := by
      by_cases e : b = k
      · subst e
        rw [sr_same]
        exact gMg_up h hb _
      · rw [sr_ne e]
        exact Int.le_refl _
    by_cases e : a = k
    · subst e
      rw [sr_same]
      intro _
      rw [show gCh C S 1 P a + 1 - 1 = gCh C S 1 P a by omega]
      exact Int.le_trans (hm b hb) hup
    · rw [sr_ne e]
      intro h0
      exact Int.le_trans (ih a b ha hb h0) hup
theorem gConv {c s x y L : Int} (hs : 0 ≤ s) (h1 : L ≤ c + (2 * x + 1) * s) (h2 : 0 < x → c + (2 * (x - 1) + 1) * s ≤ L) (hx : 0 ≤ x) (hy : 0 ≤ y) : (y - x) * L ≤ y * (c + s * y) - x * (c + x * s) := by
  rcases Int.lt_trichotomy y x with h | h | h
  · have h3 := h2 (by omega)
    have h4 : (x - y) * (c + (2 * (x - 1) + 1) * s) ≤ (x - y) * L := Int.mul_le_mul_of_nonneg_left h3 (by omega)
    have h5 : 0 ≤ (x - y) * (x - y - 1) * s := Int.mul_nonneg (Int.mul_nonneg (by omega) (by omega)) hs
    have h6 : y * (c + s * y) - x * (c + x * s) = (x - y) * (x - y - 1) * s - (x - y) * (c + (2 * (x - 1) + 1) * s) := by grind
    have h7 : (y - x) * L = - ((x - y) * L) := by grind
    omega
  · subst h
    have h6 : y * (c + s * y) - y * (c + y * s) = 0 := by grind
    have h7 : (y - y) * L = 0 := by grind
    omega
  · have h4 : (y - x) * L ≤ (y - x) * (c + (2 * x + 1) * s) := Int.mul_le_mul_of_nonneg_left h1 (by omega)
    have h5 : 0 ≤ (y - x) * (y - x - 1) * s := Int.mul_nonneg (Int.mul_nonneg (by omega) (by omega)) hs
    have h6 : y * (c + s * y) - x * (c + x * s) = (y - x) * (y - x - 1) * s + (y - x) * (c + (2 * x + 1) * s) := by grind
    omega
theorem gMin {C S : Nat → Int} (h : gOk C S) {P : Nat} {y0 y1 y2 : Int} (h0 : 0 ≤ y0) (h1 : 0 ≤ y1) (h2 : 0 ≤ y2) (hs : y0 + y1 + y2 = P) : gSum C S (gCh C S 1 P) ≤ y0 * (C 0 + S 0 * y0) + y1 * (C 1 + S 1 * y1) + y2 * (C 2 + S 2 * y2) := by
  have hm := gM1 h P
  have hsum := gCh_sum (C := C) (S := S) (b := 1) P
  have hr := fun l => (gCh_r (C := C) (S := S) (b := 1) P l).1
  generalize gCh C S 1 P = ch at *
  obtain ⟨L, hL1, hL2⟩ : ∃ L : Int, (∀ b, b < 3 → L ≤ gMg C S b (ch b)) ∧ ∀ a, a < 3 → 0 < ch a → gMg C S a (ch a - 1) ≤ L := by
    have key : ∀ k, k < 3 → (∀ b, b < 3 → gMg C S k (ch k) ≤ gMg C S b (ch b)) → ∃ L : Int, (∀ b, b < 3 → L ≤ gMg C S b (ch b)) ∧ ∀ a, a < 3 → 0 < ch a → gMg C S a (ch a - 1) ≤ L := fun k hk hb => ⟨gMg C S k (ch k), hb, fun a ha h0 => hm a k ha hk h0⟩
    have all : ∀ (k : Nat), gMg C S k (ch k) ≤ gMg C S 0 (ch 0) → gMg C S k (ch k) ≤ gMg C S 1 (ch 1) → gMg C S k (ch k) ≤ gMg C S 2 (ch 2) → ∀ b, b < 3 → gMg C S k (ch k) ≤ gMg C S b (ch b) := fun k a b c i hi => by
      rcases (show i = 0 ∨ i = 1 ∨ i = 2 by omega) with rfl | rfl | rfl
      · exact a
      · exact b
      · exact c
    by_cases a : gMg C S 0 (ch 0) ≤ gMg C S 1 (ch 1)
    · by_cases b : gMg C S 0 (ch 0) ≤ gMg C S 2 (ch 2)
      · exact key 0 (by decide) (all 0 (Int.le_refl _) a b)
      · exact key 2 (by decide) (all 2 (by omega) (by omega) (Int.le_refl _))
    · by_cases b : gMg C S 1 (ch 1) ≤ gMg C S 2 (ch 2)
      · exact key 1 (by decide) (all 1 (by omega) (Int.le_refl _) b)
      · exact key 2 (by decide) (all 2 (by omega) (by omega) (Int.le_refl _))
  have e : ∀ (l : Nat) (y : Int), l < 3 → 0 ≤ y → (y - ch l) * L ≤ y * (C l + S l * y) - ch l * (C l + ch l * S l) := fun l y hl hy => gConv (h l hl).2.1 (hL1 l hl) (fun q => hL2 l hl q) (hr l) hy
  have e0 := e 0 y0 (by decide) h0
  have e1 := e 1 y1 (by decide) h1
  have e2 := e 2 y2 (by decide) h2
  unfold gSum gPay
  have e3 : (y0 - ch 0) * L + (y1 - ch 1) * L + (y2 - ch 2) * L = 0 := by
    rw [← Int.add_mul, ← Int.add_mul, show y0 - ch 0 + (y1 - ch 1) + (y2 - ch 2) = 0 by omega, Int.zero_mul]
  omega
theorem gPay_c {C S : Nat → Int} {l : Nat} {x : Int} : C l + S l * x = gPay C S l x := by
  unfold gPay
  rw [Int.mul_comm]
