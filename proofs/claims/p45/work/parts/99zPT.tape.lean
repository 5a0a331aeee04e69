/-! isTape: the text of a job. -/
theorem LF.trM {S S2 : List Nat} {C C' C'' : LMem} (h : LF S C C') (g : LF S2 C' C'') (hn : ∀ q, q ∈ S2 → (C q).1 = 0 ∨ q ∈ S) : LF S C C'' := fun k hk => by
  obtain ⟨h1, h2, h3⟩ := h k hk
  obtain ⟨g1, g2, g3⟩ := g k (by rw [h1]; exact hk)
  exact ⟨g1.trans h1, g2.trans h2, fun z => (g3 fun w => (hn k w).elim hk z).trans (h3 z)⟩
theorem ne_len {C : LMem} {q r k n k' n' : Nat} {f g : Nat → Int} (h : C q = (k, n, f)) (h2 : C r = (k', n', g)) (hn : n ≠ n') : q ≠ r := fun z => by
  rw [z, h2] at h
  exact hn (congrArg (fun x : LCel => x.2.1) h).symm
def TSq (C0 : LMem) (r a b q1 q3 : Nat) (fa fb fs f : Nat → Int) (C : LMem) : Prop := (∃ x, C r = (1, 1, x)) ∧ C a = (1, 120, fa) ∧ C b = (1, 10, fb) ∧ C q3 = (1, 96, fs) ∧ C q1 = (1, 200, f) ∧ LF [r, a, b] C0 C ∧ (C0 q1).1 = 0
section TPA
variable {d : Nat} {M : Mem} {C0 C : LMem} {r a b q1 q3 t3 : Nat} {fa fb fs f : Nat → Int}
theorem TSq.rnd {C' : LMem} (h : TSq C0 r a b q1 q3 fa fb fs f C) (hf : LF [r] C C') (hr : ∃ x, C' r = (1, 1, x)) : TSq C0 r a b q1 q3 fa fb fs f C' := by
  obtain ⟨⟨x, h1⟩, h2, h3, h4, h5, h6, h7⟩ := h
  exact ⟨hr, hf.at' (k := 0) (nin1 (ne_len h2 h1 (by decide))) h2, hf.at' (k := 0) (nin1 (ne_len h3 h1 (by decide))) h3, hf.at' (k := 0) (nin1 (ne_len h4 h1 (by decide))) h4, hf.at' (k := 0) (nin1 (ne_len h5 h1 (by decide))) h5, h6.tr (hf.mono fun z hz => by rw [List.mem_singleton.mp hz]; exact List.mem_cons_self), h7⟩
theorem TSq.seta {i : Nat} {v : Int} (h : TSq C0 r a b q1 q3 fa fb fs f C) : TSq C0 r a b q1 q3 (sr fa i v) fb fs f (cst C a (1, 120, sr fa i v)) := by
  obtain ⟨⟨x, h1⟩, h2, h3, h4, h5, h6, h7⟩ := h
  exact ⟨⟨x, by rw [cst_ne (ne_len h1 h2 (by decide))]; exact h1⟩, cst_self, by rw [cst_ne (ne_len h3 h2 (by decide))]; exact h3, by rw [cst_ne (ne_len h4 h2 (by decide))]; exact h4, by rw [cst_ne (ne_len h5 h2 (by decide))]; exact h5, h6.own (by simp) h2, h7⟩
theorem t_puts {i : Nat} (h : TSq C0 r a b q1 q3 fa fb fs f C) (hi : i + 1 + (txL (t3 + 1)).length ≤ 200) :
    LPo (d + 2) cW_puts [.inr (.inr (.inl (q1 + 1))), .inl (i : Int), .inr (.inr (.inl (r + 1))), .inr (.inr (.inr (t3 + 1)))] M C (fun v m c' => m = M ∧ ∃ (y : Nat) (g : Nat → Int), y ≤ 1 ∧ v = ((i + y + (txL (t3 + 1)).length : Nat) : Int) ∧ TSq C0 r a b q1 q3 fa fb fs g c' ∧ (∀ k, k < i → g k = f k) ∧ (y = 1 → g i = 32) ∧ ∀ k, k < (txL (t3 + 1)).length → g (i + y + k) = (txL (t3 + 1)).getD k 0) := by
  obtain ⟨⟨x, h1⟩, h2, h3, h4, h5, h6, h7⟩ := h
  refine (s_puts h5 h1 hi).imp ?_
  rintro v m c' ⟨rfl, hf, hr, y, hy, hv, g, hg, g1, g2, g3⟩
  have nin2 : ∀ {z : Nat}, z ≠ q1 → z ≠ r → z ∉ [q1, r] := fun z1 z2 hz => by
    rcases List.mem_cons.mp hz with w | hz
    · exact z1 w
    · exact z2 (List.mem_singleton.mp hz)
  exact ⟨rfl, y, g, hy, hv, ⟨hr, hf.at' (k := 0) (nin2 (ne_len h2 h5 (by decide)) (ne_len h2 h1 (by decide))) h2, hf.at' (k := 0) (nin2 (ne_len h3 h5 (by decide)) (ne_len h3 h1 (by decide))) h3, hf.at' (k := 0) (nin2 (ne_len h4 h5 (by decide)) (ne_len h4 h1 (by decide))) h4, hg, h6.trM hf (fun z hz => by
    rcases List.mem_cons.mp hz with w | hz
    · exact Or.inl (by rw [w]; exact h7)
    · exact Or.inr (by rw [List.mem_singleton.mp hz]; exact List.mem_cons_self)), h7⟩, g1, g2, g3⟩
end TPA
theorem TX.pre {f g : Nat → Int} {i st c cls y : Nat} {F : (Nat → Int) → Nat → Int} (h : TX f i st c cls F) (hy : y ≤ 1) (e : ∀ k, k < i → g k = f k) (hb : y = 1 → g i = 32) : ∃ cls', (cls' = 0 ∨ cls' = cls) ∧ TX g (i + y) st c cls' F := by
  have h1 := h.congr e
  rcases (show y = 0 ∨ y = 1 by omega) with rfl | rfl
  · exact ⟨cls, Or.inr rfl, h1⟩
  · exact ⟨0, Or.inl rfl, h1.blank (hb rfl)⟩
theorem nth_gD : ∀ (l : List Int) (m : Nat) (v : Int), nth l m = some v → l.getD m 0 = v
  | [], m, v, h => by cases m <;> cases h
  | x :: l, 0, v, h => by cases h; rfl
  | x :: l, m + 1, v, h => nth_gD l m v h
theorem word_of {g : Nat → Int} {i k : Nat} (h : ∀ m, m < (wordL k).length → g (i + m) = (wordL k).getD m 0) : wordAt g i k := fun m v hv => by
  rw [h m (nth_some_lt _ _ _ hv)]
  exact nth_gD _ _ _ hv
def Ch9 (f : Nat → Int) (i : Nat) : Prop := ∀ k, k < i → 32 ≤ f k ∧ f k ≤ 126
theorem Ch9.app {f g : Nat → Int} {i y len : Nat} (h : Ch9 f i) (hy : y ≤ 1) (e : ∀ k, k < i → g k = f k) (hb : y = 1 → g i = 32) (hl : ∀ k, k < len → 32 ≤ g (i + y + k) ∧ g (i + y + k) ≤ 126) : Ch9 g (i + y + len) := fun k hk => by
  by_cases z : k < i
  · rw [e k z]; exact h k z
  · by_cases w : k < i + y
    · rw [show k = i by omega, hb (by omega)]; exact ⟨by decide, by decide⟩
    · have := hl (k - (i + y)) (by omega)
      rw [show i + y + (k - (i + y)) = k by omega] at this
      exact this
theorem word_ch : ∀ k, k < 6 → 1 ≤ k → ∀ m, m < (wordL k).length → 32 ≤ (wordL k).getD m 0 ∧ (wordL k).getD m 0 ≤ 126 := by
  intro k h1 h2
  rcases (show k = 1 ∨ k = 2 ∨ k = 3 ∨ k = 4 ∨ k = 5 by omega) with rfl | rfl | rfl | rfl | rfl <;> decide
/-- the digits of a number -/
theorem dig_len {v : Nat} : 1 ≤ (digT v).length ∧ (digT v).length ≤ 3 ∧ (v < 100 → (digT v).length ≤ 2) := by
  unfold digT
  by_cases h1 : v < 10
  · rw [if_pos h1]; exact ⟨by show 1 ≤ 1; decide, by show 1 ≤ 3; decide, fun _ => by show 1 ≤ 2; decide⟩
  · rw [if_neg h1]
    by_cases h2 : v < 100
    · rw [if_pos h2]; exact ⟨by show 1 ≤ 2; decide, by show 2 ≤ 3; decide, fun _ => by show 2 ≤ 2; decide⟩
    · rw [if_neg h2]; exact ⟨by show 1 ≤ 3; decide, by show 3 ≤ 3; decide, fun z => absurd z h2⟩
theorem dig_num {g : Nat → Int} {i v : Nat} (hv : v < 1000) (h : ∀ k, k < (digT v).length → g (i + k) = (digT v).getD k 0) : numAt g i (digT v).length (v : Int) := by
  unfold digT at h ⊢
  by_cases h1 : v < 10
  · rw [if_pos h1] at h ⊢
    have e0 := h 0 (by show 0 < 1; decide)
    have e0 : g i = 48 + (v : Int) := e0
    refine ⟨⟨by show 1 ≤ 1; decide, by show 1 ≤ 4; decide⟩, fun k hk => ?_, ?_⟩
    · have hk : k < 1 := hk
      rw [show k = 0 by omega, Nat.add_zero, e0]; omega
    · show (0 : Int) * 10 + g (i + 0) - 48 = v
      rw [Nat.add_zero, e0]; omega
  · rw [if_neg h1] at h ⊢
    by_cases h2 : v < 100
    · rw [if_pos h2] at h ⊢
      have e0 : g i = 48 + ((v / 10 : Nat) : Int) := h 0 (by show 0 < 2; decide)
      have e1 : g (i + 1) = 48 + ((v % 10 : Nat) : Int) := h 1 (by show 1 < 2; decide)
      refine ⟨⟨by show 1 ≤ 2; decide, by show 2 ≤ 4; decide⟩, fun k hk => ?_, ?_⟩
      · have hk : k < 2 := hk
        rcases (show k = 0 ∨ k = 1 by omega) with rfl | rfl
        · rw [Nat.add_zero, e0]; omega
        · rw [e1]; omega
      · show ((0 : Int) * 10 + g (i + 0) - 48) * 10 + g (i + 1) - 48 = v
        rw [Nat.add_zero, e0, e1]; omega
    · rw [if_neg h2] at h ⊢
      have e0 : g i = 48 + ((v / 100 : Nat) : Int) := h 0 (by show 0 < 3; decide)
      have e1 : g (i + 1) = 48 + ((v / 10 % 10 : Nat) : Int) := h 1 (by show 1 < 3; decide)
      have e2 : g (i + 2) = 48 + ((v % 10 : Nat) : Int) := h 2 (by show 2 < 3; decide)
      refine ⟨⟨by show 1 ≤ 3; decide, by show 3 ≤ 4; decide⟩, fun k hk => ?_, ?_⟩
      · have hk : k < 3 := hk
        rcases (show k = 0 ∨ k = 1 ∨ k = 2 by omega) with rfl | rfl | rfl
        · rw [Nat.add_zero, e0]; omega
        · rw [e1]; omega
        · rw [e2]; omega
      · show (((0 : Int) * 10 + g (i + 0) - 48) * 10 + g (i + 1) - 48) * 10 + g (i + 2) - 48 = v
        rw [Nat.add_zero, e0, e1, e2]; omega
theorem nv_zero {g : Nat → Int} {i : Nat} (h0 : g i = 48) : ∀ k, nv g i (k + 1) = nv g (i + 1) k
  | 0 => by show (0 : Int) * 10 + g (i + 0) - 48 = 0; rw [Nat.add_zero, h0]; rfl
  | k + 1 => by
    show nv g i (k + 1) * 10 + g (i + (k + 1)) - 48 = nv g (i + 1) k * 10 + g (i + 1 + k) - 48
    rw [nv_zero h0 k, show i + (k + 1) = i + 1 + k by omega]
theorem dig_num0 {g : Nat → Int} {i v : Nat} (hv : v < 1000) (h : ∀ k, k < (48 :: digT v).length → g (i + k) = (48 :: digT v).getD k 0) : numAt g i (48 :: digT v).length (v : Int) := by
  have h0 : g i = 48 := h 0 (Nat.succ_pos _)
  have h9 := dig_len (v := v)
  obtain ⟨a1, a2, a3⟩ := dig_num (g := g) (i := i + 1) hv (fun k hk => by
    have := h (k + 1) (Nat.succ_lt_succ hk)
    rw [show i + 1 + k = i + (k + 1) by omega]
    exact this)
  refine ⟨⟨Nat.succ_pos _, by show (digT v).length + 1 ≤ 4; omega⟩, fun k hk => ?_, ?_⟩
  · rcases k with _ | k
    · rw [Nat.add_zero, h0]; exact ⟨by decide, by decide⟩
    · have := a2 k (Nat.lt_of_succ_lt_succ hk)
      rw [show i + 1 + k = i + (k + 1) by omega] at this
      exact this
  · show nv g i ((digT v).length + 1) = v
    rw [nv_zero h0]; exact a3
theorem tx_num (v : Nat) : txL (2 * v + 0 + 5 + 1) = digT v := by
  unfold txL
  rw [if_neg (by omega), if_neg (by omega)]
  congr 1
  omega
theorem tx_num0 (v : Nat) : txL (2 * v + 1 + 5 + 1) = 48 :: digT v := by
  unfold txL
  rw [if_neg (by omega), if_pos (by omega)]
  congr 2
  omega
theorem num_ch {g : Nat → Int} {i len : Nat} {v : Int} (h : numAt g i len v) : ∀ k, k < len → 32 ≤ g (i + k) ∧ g (i + k) ≤ 126 := fun k hk => by
  have := h.2.1 k hk
  omega
