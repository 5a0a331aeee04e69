/-! Big: limbs of nine digits. -/
abbrev BB : Int := 1000000000
theorem BB0 : (0 : Int) < BB := by decide
def Big (M : Mem) (r : Nat) (v : Int) : Prop := Dg BB (M (r + 1)) ∧ ∃ n : Nat, n ≤ 20 ∧ M r 1 = n ∧ (∀ i, n ≤ i → M (r + 1) i = 0) ∧ (n = 0 ∨ M (r + 1) (n - 1) ≠ 0) ∧ v = bs BB (M (r + 1)) n
theorem Big.kept {M M' : Mem} {r : Nat} {v : Int} {l : List Nat} (h : Big M r v) (hf : Fr l M M') (h1 : r ∉ l) (h2 : r + 1 ∉ l) : Big M' r v := by
  unfold Big
  rw [hf r h1, hf (r + 1) h2]
  exact h
theorem Big.nonneg {M : Mem} {r : Nat} {v : Int} (h : Big M r v) : 0 ≤ v := by
  obtain ⟨h1, n, h2, h3, h4, h5, rfl⟩ := h
  exact h1.bs0 BB0 n
theorem Big.bs20 {M : Mem} {r : Nat} {v : Int} (h : Big M r v) : v = bs BB (M (r + 1)) 20 := by
  obtain ⟨h1, n, h2, h3, h4, h5, rfl⟩ := h
  exact (bs_top h2 fun i hi _ => h4 i hi).symm
theorem Big.lt {M : Mem} {r : Nat} {v : Int} (h : Big M r v) : v < BB ^ 20 := by
  rw [h.bs20]
  exact h.1.bsl BB0 20
theorem fill_loop {d : Nat} {Q : Rs → Mem → Prop} {r0 : Nat} {v : Int} (hk : wAk r0 = 1) (hn : wAl r0 < 2147483648) : ∀ (k : Nat) (M : Mem) (i : Nat), i + k = wAl r0 → (∀ M', Fr [r0] M M' → (∀ j, M' r0 j = if i ≤ j ∧ j < wAl r0 then v else M r0 j) → Q (.inl 0) M') → L_A_fill_5 d Q M r0 v (i : Int) (wAl r0 : Int)
  | 0, M, i, he, hQ => by
    refine b_A_fill_5 ⟨⟨by omega, by omega⟩, ⟨by omega, by omega⟩, fun _ => hQ M Fr.rfl' fun j => ?_, fun h => absurd (show (wAl r0 : Int) ≤ i by omega) h⟩
    rw [if_neg (by omega)]
  | k + 1, M, i, he, hQ => by
    refine b_A_fill_5 ⟨⟨by omega, by omega⟩, ⟨by omega, by omega⟩, fun h => absurd h (by omega), fun _ => ⟨hk, ⟨by omega, by omega⟩, ?_⟩⟩
    rw [Int.toNat_natCast]
    refine fill_loop hk hn k _ (i + 1) (by omega) fun M' hf hr => hQ M' (fun a ha => ?_) fun j => ?_
    · rw [hf a ha, u2_off (by simpa using ha)]
    · rw [hr j]
      by_cases e : j = i
      · subst e
        rw [if_neg (by omega), if_pos (by omega), u2_same]
      · rw [u2_ne e]
        by_cases q : i ≤ j ∧ j < wAl r0
        · rw [if_pos q, if_pos (by omega)]
        · rw [if_neg q, if_neg (by omega)]
theorem s_fill {d : Nat} {M : Mem} {r0 : Nat} {v : Int} (hk : wAk r0 = 1) : Post (d + 1) cA_fill [.inr (.inr (.inl r0)), .inl v] M (fun _ M' => Fr [r0] M M' ∧ ∀ j, M' r0 j = if j < wAl r0 then v else M r0 j) := by
  intro Q hQ
  have hn : wAl r0 < 2147483648 := (IsWAl r0)
  refine e_A_fill (b_A_fill_0 ⟨by omega, ?_⟩)
  exact fill_loop hk hn (wAl r0) M 0 (by omega) fun M' h1 h2 => hQ 0 M' ⟨h1, fun j => by
    rw [h2 j]
    by_cases q : j < wAl r0
    · rw [if_pos ⟨Nat.zero_le _, q⟩, if_pos q]
    · rw [if_neg (fun z => q z.2), if_neg q]⟩
theorem trim_loop {d : Nat} {Q : Rs → Mem → Prop} {r0 : Nat} {o1 : Option PV} (hr0 : IsBig r0) : ∀ (n : Nat) (M : Mem), M r0 1 = n → n ≤ 20 → Dg BB (M (r0 + 1)) →
    (∀ M', Fr [r0] M M' → (∃ k : Nat, M' r0 1 = k ∧ k ≤ n ∧ (∀ i, k ≤ i → i < n → M (r0 + 1) i = 0) ∧ (k = 0 ∨ M (r0 + 1) (k - 1) ≠ 0)) → Q (.inl 0) M') → L_B_trim_5 d Q M r0 o1
  | 0, M, hn, _, _, hQ => by
    refine b_B_trim_5 hr0 ⟨⟨by omega, by omega⟩, fun _ => hQ M Fr.rfl' ⟨0, hn, Nat.le_refl _, fun i _ h => absurd h (by omega), Or.inl rfl⟩, fun h => absurd (show M r0 1 ≤ 0 by omega) h⟩
  | n + 1, M, hn, h20, hD, hQ => by
    have et : (M r0 1 - 1).toNat = n := by omega
    have hd : 0 ≤ M (r0 + 1) n ∧ M (r0 + 1) n < 1000000000 := hD n
    refine b_B_trim_5 hr0 ⟨⟨by omega, by omega⟩, fun h => absurd h (by omega), fun _ => ⟨⟨by omega, by omega⟩, ?_⟩⟩
    rw [et]
    refine ⟨⟨by omega, by omega⟩, fun h => hQ M Fr.rfl' ⟨n + 1, hn, Nat.le_refl _, fun i h1 h2 => absurd h2 (by omega), Or.inr h⟩, fun h => ?_⟩
    have h0 : M (r0 + 1) n = 0 := Classical.not_not.mp h
    have hne : r0 + 1 ≠ r0 := by omega
    refine trim_loop hr0 n _ (by rw [u2_same]; omega) (by omega) (by rw [u2_off hne]; exact hD) fun M' hf ⟨k, k1, k2, k3, k4⟩ => ?_
    rw [u2_off hne] at k3 k4
    refine hQ M' (fun a ha => by rw [hf a ha, u2_off (by simpa using ha)]) ⟨k, k1, by omega, fun i h1 h2 => ?_, k4⟩
    by_cases e : i = n
    · subst e; exact h0
    · exact k3 i h1 (by omega)
/-- trim: the digits are as they are, the size becomes the least -/
theorem s_trim {d : Nat} {M : Mem} {r0 : Nat} {n : Nat} (hr0 : IsBig r0) (hn : n ≤ 20) (hD : Dg BB (M (r0 + 1))) (hz : ∀ i, n ≤ i → M (r0 + 1) i = 0) :
    Post (d + 1) cB_trim [.inr (.inr (.inl r0)), .inl (n : Int)] M (fun _ M' => Fr [r0] M M' ∧ Big M' r0 (bs BB (M (r0 + 1)) n)) := by
  intro Q hQ
  have hne : r0 + 1 ≠ r0 := by omega
  refine e_B_trim hr0 (b_B_trim_0 hr0 ⟨⟨by omega, by omega⟩, ?_⟩)
  rw [Int.min_eq_left (by omega)]
  refine trim_loop hr0 n _ u2_same hn (by rw [u2_off hne]; exact hD) fun M' hf ⟨k, k1, k2, k3, k4⟩ => ?_
  rw [u2_off hne] at k3 k4
  have hrow : M' (r0 + 1) = M (r0 + 1) := by rw [hf _ (by simp), u2_off hne]
  refine hQ 0 M' ⟨fun a ha => by rw [hf a ha, u2_off (by simpa using ha)], by rw [hrow]; exact hD, k, by omega, k1, fun i hi => ?_, by rw [hrow]; exact k4, ?_⟩
  · rw [hrow]
    by_cases q : i < n
    · exact k3 i hi q
    · exact hz i (by omega)
  · rw [hrow]
    exact bs_top k2 k3
