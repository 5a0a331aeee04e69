/-! Rows, digits, frames. -/
theorem sr_same {f : Nat → Int} {k : Nat} {v : Int} : sr f k v k = v := if_pos rfl
theorem sr_ne {f : Nat → Int} {k j : Nat} {v : Int} (h : j ≠ k) : sr f k v j = f j := if_neg h
theorem sm_row {M : Mem} {a : Nat} {f : Nat → Int} : sm M a f a = f := if_pos rfl
theorem sm_off {M : Mem} {a b : Nat} {f : Nat → Int} (h : b ≠ a) : sm M a f b = M b := if_neg h
theorem u2_row {M : Mem} {a k : Nat} {v : Int} : upd2 M a k v a = sr (M a) k v := if_pos rfl
theorem u2_off {M : Mem} {a b k : Nat} {v : Int} (h : b ≠ a) : upd2 M a k v b = M b := if_neg h
theorem u2_same {M : Mem} {a k : Nat} {v : Int} : upd2 M a k v a k = v := by rw [u2_row, sr_same]
theorem u2_ne {M : Mem} {a k j : Nat} {v : Int} (h : j ≠ k) : upd2 M a k v a j = M a j := by rw [u2_row, sr_ne h]
/-- nothing but these rows has changed -/
def Fr (l : List Nat) (M M' : Mem) : Prop := ∀ a, a ∉ l → M' a = M a
theorem Fr.rfl' {l : List Nat} {M : Mem} : Fr l M M := fun _ _ => rfl
theorem Fr.tr {l : List Nat} {M M' M'' : Mem} (h : Fr l M M') (h2 : Fr l M' M'') : Fr l M M'' := fun a ha => (h2 a ha).trans (h a ha)
theorem Fr.mono {l l' : List Nat} {M M' : Mem} (h : Fr l M M') (hl : ∀ a, a ∈ l → a ∈ l') : Fr l' M M' := fun a ha => h a fun q => ha (hl a q)
theorem Fr.u2 {l : List Nat} {M M' : Mem} {a k : Nat} {v : Int} (h : Fr l M M') (ha : a ∈ l) : Fr l M (upd2 M' a k v) := fun b hb => by
  rw [u2_off (fun e => hb (by rw [e]; exact ha))]
  exact h b hb
theorem Fr.sm {l : List Nat} {M M' : Mem} {a : Nat} {f : Nat → Int} (h : Fr l M M') (ha : a ∈ l) : Fr l M (sm M' a f) := fun b hb => by
  rw [sm_off (fun e => hb (by rw [e]; exact ha))]
  exact h b hb
/-- the value of the first digits of a row -/
def bs (β : Int) (f : Nat → Int) : Nat → Int
  | 0 => 0
  | n + 1 => bs β f n + f n * β ^ n
def Dg (β : Int) (f : Nat → Int) : Prop := ∀ i, 0 ≤ f i ∧ f i < β
theorem Dg.sr {β : Int} {f : Nat → Int} (h : Dg β f) {k : Nat} {v : Int} (hv : 0 ≤ v ∧ v < β) : Dg β (sr f k v) := fun i => by
  by_cases e : i = k
  · subst e; rw [sr_same]; exact hv
  · rw [sr_ne e]; exact h i
theorem bs_congr {β : Int} {f g : Nat → Int} : ∀ {n : Nat}, (∀ i, i < n → f i = g i) → bs β f n = bs β g n
  | 0, _ => rfl
  | n + 1, h => by
    show bs β f n + f n * β ^ n = bs β g n + g n * β ^ n
    rw [bs_congr (n := n) (fun i hi => h i (by omega)), h n (by omega)]
theorem bs_sr_ge {β : Int} {f : Nat → Int} {k n : Nat} {v : Int} (h : n ≤ k) : bs β (sr f k v) n = bs β f n := bs_congr fun i hi => sr_ne (by omega)
theorem pw_pos {β : Int} (hβ : 0 < β) (n : Nat) : 0 < β ^ n := Int.pow_pos hβ
theorem bs_nonneg {β : Int} (hβ : 0 < β) {f : Nat → Int} : ∀ {n : Nat}, (∀ i, i < n → 0 ≤ f i) → 0 ≤ bs β f n
  | 0, _ => Int.le_refl 0
  | n + 1, h => by
    have h1 := bs_nonneg hβ (n := n) (fun i hi => h i (by omega))
    have h2 : 0 ≤ f n * β ^ n := Int.mul_nonneg (h n (by omega)) (Int.le_of_lt (pw_pos hβ n))
    show 0 ≤ bs β f n + f n * β ^ n
    omega
theorem bs_lt {β : Int} (hβ : 0 < β) {f : Nat → Int} : ∀ {n : Nat}, (∀ i, i < n → f i < β) → (∀ i, i < n → 0 ≤ f i) → bs β f n < β ^ n
  | 0, _, _ => by simp [bs]
  | n + 1, h, h0 => by
    have h1 := bs_lt hβ (n := n) (fun i hi => h i (by omega)) (fun i hi => h0 i (by omega))
    have hp := pw_pos hβ n
    have h2 : f n * β ^ n ≤ (β - 1) * β ^ n := Int.mul_le_mul_of_nonneg_right (by have := h n (by omega); omega) (Int.le_of_lt hp)
    show bs β f n + f n * β ^ n < β ^ (n + 1)
    rw [Int.pow_succ]
    have h3 : (β - 1) * β ^ n = β ^ n * β - β ^ n := by rw [Int.sub_mul, Int.one_mul, Int.mul_comm]
    omega
theorem Dg.bs0 {β : Int} (hβ : 0 < β) {f : Nat → Int} (h : Dg β f) (n : Nat) : 0 ≤ bs β f n := bs_nonneg hβ fun i _ => (h i).1
theorem Dg.bsl {β : Int} (hβ : 0 < β) {f : Nat → Int} (h : Dg β f) (n : Nat) : bs β f n < β ^ n := bs_lt hβ (fun i _ => (h i).2) fun i _ => (h i).1
/-- zeros on top -/
theorem bs_top {β : Int} {f : Nat → Int} {n : Nat} : ∀ {m : Nat}, n ≤ m → (∀ i, n ≤ i → i < m → f i = 0) → bs β f m = bs β f n
  | 0, h, _ => by
    have : n = 0 := by omega
    subst this; rfl
  | m + 1, h, h0 => by
    by_cases e : n = m + 1
    · subst e; rfl
    · show bs β f m + f m * β ^ m = bs β f n
      rw [bs_top (m := m) (by omega) (fun i h1 h2 => h0 i h1 (by omega)), h0 m (by omega) (by omega), Int.zero_mul, Int.add_zero]
theorem bs_ge_top {β : Int} (hβ : 0 < β) {f : Nat → Int} (h : ∀ i, 0 ≤ f i) {n : Nat} (h0 : f n ≠ 0) : β ^ n ≤ bs β f (n + 1) := by
  have h1 : 0 ≤ bs β f n := bs_nonneg hβ fun i _ => h i
  have h2 : 1 * β ^ n ≤ f n * β ^ n := Int.mul_le_mul_of_nonneg_right (by have := h n; omega) (Int.le_of_lt (pw_pos hβ n))
  show β ^ n ≤ bs β f n + f n * β ^ n
  rw [Int.one_mul] at h2
  omega
/-- the first place that differs decides -/
theorem bs_cmp {β : Int} (hβ : 0 < β) {f g : Nat → Int} (hf : Dg β f) (hg : Dg β g) {k : Nat} (hk : f k < g k) : ∀ {n : Nat}, k < n → (∀ i, k < i → i < n → f i = g i) → bs β f n < bs β g n
  | 0, h, _ => by omega
  | n + 1, h, he => by
    by_cases e : k = n
    · subst e
      have h1 := hf.bsl hβ k
      have h2 := hg.bs0 hβ k
      have h3 : (f k + 1) * β ^ k ≤ g k * β ^ k := Int.mul_le_mul_of_nonneg_right (by omega) (Int.le_of_lt (pw_pos hβ k))
      rw [Int.add_mul, Int.one_mul] at h3
      show bs β f k + f k * β ^ k < bs β g k + g k * β ^ k
      omega
    · have h1 := bs_cmp hβ hf hg hk (n := n) (by omega) (fun i h1 h2 => he i h1 (by omega))
      show bs β f n + f n * β ^ n < bs β g n + g n * β ^ n
      rw [he n (by omega) (by omega)]
      omega
theorem pw_mono {β : Int} (hβ : 1 ≤ β) {a b : Nat} (h : a ≤ b) : β ^ a ≤ β ^ b := by
  induction b with
  | zero =>
    have : a = 0 := by omega
    subst this; exact Int.le_refl _
  | succ b ih =>
    by_cases e : a = b + 1
    · subst e; exact Int.le_refl _
    · have h1 := ih (by omega)
      have h2 : 0 < β ^ b := pw_pos (by omega) b
      have h3 : β ^ b * 1 ≤ β ^ b * β := Int.mul_le_mul_of_nonneg_left hβ (Int.le_of_lt h2)
      rw [Int.pow_succ]
      rw [Int.mul_one] at h3
      omega
/-- a method is satisfied by what is said of its answer -/
def Post (d y : Nat) (a : List PV) (M : Mem) (P : Int → Mem → Prop) : Prop := ∀ Q : Rs → Mem → Prop, (∀ v M', P v M' → Q (.inl v) M') → cald d y a M Q
theorem Post.cal {d y : Nat} {a : List PV} {M : Mem} {P : Int → Mem → Prop} (h : Post d y a M P) {f : Int → Mem → Prop} {g : Nat → Mem → Prop} (hP : ∀ v M', P v M' → f v M') : cald d y a M (fun r M' => Rt r (fun v => f v M') (fun x => g x M')) := h _ hP
theorem Post.up {d y : Nat} {a : List PV} {M : Mem} {P : Int → Mem → Prop} (h : Post d y a M P) : Post (d + 1) y a M P := fun Q hQ => calD_le MTf extS extS_mono d y a M Q (h Q hQ)
theorem Post.le {d e y : Nat} {a : List PV} {M : Mem} {P : Int → Mem → Prop} (h : Post d y a M P) (he : d ≤ e) : Post e y a M P := by
  obtain ⟨k, rfl⟩ := Nat.exists_eq_add_of_le he
  induction k with
  | zero => exact h
  | succ k ih => exact (ih (by omega)).up
