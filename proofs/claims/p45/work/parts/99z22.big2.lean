/-! Big: small methods, multiply, addScaled, divideByLimb. -/
abbrev oB (r : Nat) : PV := .inr (.inr (.inl r))
/-- the places behind the row are empty -/
def RZ (M : Mem) (r : Nat) : Prop := ∀ i, 20 ≤ i → M (r + 1) i = 0
theorem Big.rz {M : Mem} {r : Nat} {v : Int} (h : Big M r v) : RZ M r := by
  obtain ⟨h1, n, h2, h3, h4, h5, h6⟩ := h
  exact fun i hi => h4 i (by omega)
theorem RZ.kept {M M' : Mem} {r : Nat} {l : List Nat} (h : RZ M r) (hf : Fr l M M') (h2 : r + 1 ∉ l) : RZ M' r := by
  unfold RZ
  rw [hf (r + 1) h2]
  exact h
theorem Dg.zero : Dg BB (fun _ => 0) := fun _ => ⟨Int.le_refl 0, BB0⟩
theorem srB {f : Nat → Int} (h : Dg BB f) {k : Nat} {v : Int} (hv : 0 ≤ v ∧ v < 1000000000) : Dg BB (sr f k v) := h.sr hv
theorem bs_sr {β : Int} {f : Nat → Int} {k : Nat} {v : Int} : ∀ {n : Nat}, k < n → bs β (sr f k v) n = bs β f n + (v - f k) * β ^ k
  | 0, h => absurd h (by omega)
  | n + 1, h => by
    show bs β (sr f k v) n + sr f k v n * β ^ n = bs β f n + f n * β ^ n + (v - f k) * β ^ k
    by_cases e : n = k
    · subst e
      rw [bs_sr_ge (Nat.le_refl n), sr_same]
      grind
    · rw [bs_sr (n := n) (by omega), sr_ne e]
      grind
theorem bs3 (a b c : Int) : bs BB (sr (sr (sr (fun _ => 0) 0 a) 1 b) 2 c) 3 = a + b * 1000000000 + c * 1000000000000000000 := by
  simp [bs, sr, BB]
theorem s_setLong {d : Nat} {M : Mem} {r0 : Nat} {j : Int} (hr0 : IsBig r0) (hz : RZ M r0) (h0 : 0 ≤ j) (h1 : j < 9223372036854775808) :
    Post (d + 2) cB_setLong [oB r0, .inr (.inl j)] M (fun _ M' => Fr [r0, r0 + 1] M M' ∧ Big M' r0 j) := by
  intro Q hQ
  have hne : r0 + 1 ≠ r0 := by omega
  refine e_B_setLong hr0 (b_B_setLong_0 hr0 ((s_fill (d := d) hr0.ak1).cal fun v1 M1 ⟨f1, g1⟩ => ⟨⟨h0, h1⟩, ⟨⟨by omega, by omega⟩, ?_⟩⟩))
  have hrow : M1 (r0 + 1) = fun _ => 0 := funext fun i => by
    rw [g1 i, hr0.al1]
    by_cases q : i < 20
    · rw [if_pos q]
    · rw [if_neg q]; exact hz i (by omega)
  have hR : (upd2 (upd2 (upd2 M1 (r0 + 1) 0 (j % 1000000000)) (r0 + 1) 1 ((j / 1000000000) % 1000000000)) (r0 + 1) 2 ((j / 1000000000) / 1000000000)) (r0 + 1) = sr (sr (sr (fun _ => 0) 0 (j % 1000000000)) 1 ((j / 1000000000) % 1000000000)) 2 ((j / 1000000000) / 1000000000) := by
    rw [u2_row, u2_row, u2_row, hrow]
  refine (s_trim (d := d) (n := 3) hr0 (by decide) ?_ ?_).cal fun v2 M2 ⟨f2, g2⟩ => hQ 0 M2 ⟨?_, ?_⟩
  · rw [hR]
    exact srB (srB (srB Dg.zero ⟨by omega, by omega⟩) ⟨by omega, by omega⟩) ⟨by omega, by omega⟩
  · intro i hi
    rw [hR, sr_ne (by omega), sr_ne (by omega), sr_ne (by omega)]
  · have f3 : Fr [r0, r0 + 1] M M1 := f1.mono (by simp)
    exact (((f3.u2 (by simp)).u2 (by simp)).u2 (by simp)).tr (f2.mono (by simp))
  · rw [hR, bs3] at g2
    rwa [show j % 1000000000 + j / 1000000000 % 1000000000 * 1000000000 + j / 1000000000 / 1000000000 * 1000000000000000000 = j by omega] at g2
theorem s_copy {d : Nat} {M : Mem} {r0 r1 : Nat} {v : Int} (hr0 : IsBig r0) (hr1 : IsBig r1) (hne : r0 ≠ r1) (hz : RZ M r0) (hv : Big M r1 v) :
    Post (d + 1) cB_copy [oB r0, oB r1] M (fun _ M' => Fr [r0, r0 + 1] M M' ∧ Big M' r0 v) := by
  intro Q hQ
  have e0 : r0 % 2 = 0 := hr0.2
  have e1 : r1 % 2 = 0 := hr1.2
  refine e_B_copy hr0 hr1 (b_B_copy_0 hr0 hr1 ⟨by omega, ⟨by omega, by omega, by omega, by rw [hr1.al1]; decide, by rw [hr0.al1]; decide⟩, hQ 0 _ ⟨?_, ?_⟩⟩)
  · exact (Fr.rfl'.sm (by simp)).u2 (by simp)
  · have hrow : cpy (M (r1 + 1)) (M (r0 + 1)) 0 0 20 = M (r1 + 1) := funext fun i => by
      unfold cpy
      by_cases q : i < 20
      · simp [q]
      · have := hz i (by omega)
        have h2 := hv.rz i (by omega)
        simp [q, this, h2]
    rw [hrow]
    obtain ⟨h1, n, h2, h3, h4, h5, h6⟩ := hv
    have hR : (upd2 (sm M (r0 + 1) (M (r1 + 1))) r0 1 (sm M (r0 + 1) (M (r1 + 1)) r1 1)) (r0 + 1) = M (r1 + 1) := by
      rw [u2_off (by omega), sm_row]
    have hS : (upd2 (sm M (r0 + 1) (M (r1 + 1))) r0 1 (sm M (r0 + 1) (M (r1 + 1)) r1 1)) r0 1 = M r1 1 := by
      rw [u2_same, sm_off (by omega)]
    unfold Big
    rw [hR, hS]
    exact ⟨h1, n, h2, h3, h4, h5, h6⟩
theorem Big.r32 {M : Mem} {r : Nat} {v : Int} (h : Big M r v) (i : Nat) : R32 (M (r + 1) i) := by
  have := h.1 i
  exact ⟨by omega, by have := this.2; simp only [BB] at this; omega⟩
theorem Big.size {M : Mem} {r : Nat} {v : Int} (h : Big M r v) : 0 ≤ M r 1 ∧ M r 1 ≤ 20 := by
  obtain ⟨h1, n, h2, h3, h4, h5, h6⟩ := h
  omega
/-- the size tells the range -/
theorem Big.range {M : Mem} {r : Nat} {v : Int} {n : Nat} (h : Big M r v) (hn : M r 1 = n) : v < BB ^ n ∧ (0 < n → BB ^ (n - 1) ≤ v) ∧ v = bs BB (M (r + 1)) n := by
  obtain ⟨h1, n', h2, h3, h4, h5, h6⟩ := h
  have : n = n' := by omega
  subst this
  refine ⟨by rw [h6]; exact h1.bsl BB0 n, fun h0 => ?_, h6⟩
  obtain ⟨m, rfl⟩ : ∃ m, n = m + 1 := ⟨n - 1, by omega⟩
  rw [h6, Nat.add_sub_cancel]
  refine bs_ge_top BB0 (fun i => (h1 i).1) ?_
  rcases h5 with h5 | h5
  · omega
  · simpa using h5
theorem Big.zero_iff {M : Mem} {r : Nat} {v : Int} (h : Big M r v) : M r 1 = 0 ↔ v = 0 := by
  obtain ⟨n, hn⟩ : ∃ n : Nat, M r 1 = n := ⟨(M r 1).toNat, by have := h.size; omega⟩
  obtain ⟨h1, h2, h3⟩ := h.range hn
  constructor
  · intro e
    have : n = 0 := by omega
    subst this
    exact h3
  · intro e
    rcases Nat.eq_zero_or_pos n with q | q
    · omega
    · have h4 := h2 q
      have h5 := pw_pos BB0 (n - 1)
      omega
theorem Big.of3 {M : Mem} {r : Nat} {v : Int} (h : Big M r v) (h3 : M r 1 ≤ 3) : v = M (r + 1) 0 + M (r + 1) 1 * 1000000000 + M (r + 1) 2 * 1000000000000000000 := by
  obtain ⟨h1, n, h2, h4, h5, h6, h7⟩ := h
  have : bs BB (M (r + 1)) 3 = bs BB (M (r + 1)) n := bs_top (by omega) fun i hi _ => h5 i hi
  rw [h7, ← this]
  simp [bs, BB]
theorem s_isOne {d : Nat} {M : Mem} {r0 : Nat} {v : Int} (hr0 : IsBig r0) (hv : Big M r0 v) :
    Post (d + 1) cB_isOne [oB r0] M (fun b M' => M' = M ∧ b = if v = 1 then 1 else 0) := by
  intro Q hQ
  have hs := hv.size
  refine e_B_isOne hr0 (b_B_isOne_0 hr0 ⟨⟨by omega, by omega⟩, fun h => hQ 0 M ⟨rfl, ?_⟩, fun h => ⟨hv.r32 0, fun h2 => hQ 0 M ⟨rfl, ?_⟩, fun h2 => hQ 1 M ⟨rfl, ?_⟩⟩⟩)
  · rw [if_neg]
    intro e
    subst e
    obtain ⟨n, hn⟩ : ∃ n : Nat, M r0 1 = n := ⟨(M r0 1).toNat, by omega⟩
    obtain ⟨h1, h3, h4⟩ := hv.range hn
    rcases Nat.lt_or_ge n 2 with q | q
    · have : n = 0 ∨ n = 1 := by omega
      rcases this with q | q
      · subst q
        simp [bs] at h4
      · omega
    · have h5 := h3 (by omega)
      have h6 : BB ^ 1 ≤ BB ^ (n - 1) := pw_mono (by decide) (by omega)
      have h7 : (BB : Int) ^ 1 = 1000000000 := by decide
      omega
  · have h1 : M r0 1 = 1 := Classical.not_not.mp h
    obtain ⟨_, _, h4⟩ := hv.range (n := 1) (by omega)
    rw [if_neg]
    intro e
    refine h2 ?_
    rw [e] at h4
    simp [bs] at h4
    exact h4.symm
  · have h1 : M r0 1 = 1 := Classical.not_not.mp h
    have h0 : M (r0 + 1) 0 = 1 := Classical.not_not.mp h2
    obtain ⟨_, _, h4⟩ := hv.range (n := 1) (by omega)
    rw [if_pos]
    simp [bs] at h4
    omega
theorem s_isLong {d : Nat} {M : Mem} {r0 : Nat} {v : Int} (hr0 : IsBig r0) (hv : Big M r0 v) :
    Post (d + 1) cB_isLong [oB r0] M (fun b M' => M' = M ∧ b = if v < 9223372036854775808 then 1 else 0) := by
  intro Q hQ
  have hs := hv.size
  have b0 := hv.1 0
  have b1 := hv.1 1
  have b2 := hv.1 2
  simp only [BB] at b0 b1 b2
  have big : 3 < M r0 1 → ¬ v < 9223372036854775808 := by
    intro h
    obtain ⟨n, hn⟩ : ∃ n : Nat, M r0 1 = n := ⟨(M r0 1).toNat, by omega⟩
    obtain ⟨h1, h3, h4⟩ := hv.range hn
    have h5 := h3 (by omega)
    have h6 : BB ^ 3 ≤ BB ^ (n - 1) := pw_mono (by decide) (by omega)
    have h7 : (BB : Int) ^ 3 = 1000000000000000000000000000 := by decide
    omega
  have small : M r0 1 ≤ 3 → v = M (r0 + 1) 0 + M (r0 + 1) 1 * 1000000000 + M (r0 + 1) 2 * 1000000000000000000 := hv.of3
  have z2 : M r0 1 < 3 → M (r0 + 1) 2 = 0 := by
    intro h
    obtain ⟨h1, n, h2, h4, h5, h6, h7⟩ := hv
    exact h5 2 (by omega)
  refine e_B_isLong hr0 (b_B_isLong_0 hr0 ⟨⟨by omega, by omega⟩, fun h => hQ 1 M ⟨rfl, ?_⟩, fun h => ⟨fun h2 => hQ 0 M ⟨rfl, ?_⟩, fun h2 => ⟨⟨by omega, by omega⟩, ⟨by omega, by omega⟩, fun h3 => hQ 1 M ⟨rfl, ?_⟩, fun h3 => ⟨fun h4 => hQ 0 M ⟨rfl, ?_⟩, fun h4 => ⟨⟨by omega, by omega⟩, ⟨by omega, by omega⟩, ⟨by omega, by omega⟩, fun h5 => hQ 0 M ⟨rfl, ?_⟩, fun h5 => hQ 1 M ⟨rfl, ?_⟩⟩⟩⟩⟩⟩)
  · rw [if_pos]
    have := small (by omega)
    have := z2 h
    omega
  · rw [if_neg (big (by omega))]
  all_goals
    have e3 : M r0 1 = 3 := Classical.not_not.mp h2
    have := small (by omega)
  · rw [if_pos]; omega
  · rw [if_neg]; omega
  · rw [if_neg]; omega
  · rw [if_pos]; omega
theorem s_toLong {d : Nat} {M : Mem} {r0 : Nat} {v : Int} (hr0 : IsBig r0) (hv : Big M r0 v) (hl : v < 9223372036854775808) :
    Post (d + 1) cB_toLong [oB r0] M (fun b M' => M' = M ∧ b = v) := by
  intro Q hQ
  have hs := hv.size
  have h3 : M r0 1 ≤ 3 := by
    rcases Int.lt_or_le 3 (M r0 1) with h | h
    · obtain ⟨n, hn⟩ : ∃ n : Nat, M r0 1 = n := ⟨(M r0 1).toNat, by omega⟩
      obtain ⟨h1, h3, h4⟩ := hv.range hn
      have h5 := h3 (by omega)
      have h6 : BB ^ 3 ≤ BB ^ (n - 1) := pw_mono (by decide) (by omega)
      have h7 : (BB : Int) ^ 3 = 1000000000000000000000000000 := by decide
      omega
    · exact h
  have := hv.of3 h3
  refine e_B_toLong hr0 (b_B_toLong_0 hr0 ⟨hv.r32 2, hv.r32 1, hv.r32 0, hQ _ M ⟨rfl, ?_⟩⟩)
  omega
