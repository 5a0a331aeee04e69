/-! Games: both sides. -/
abbrev oG : PV := .inr (.inr (.inl 147))
def gPay (C S : Nat → Int) (l : Nat) (x : Int) : Int := C l + x * S l
def gCost (C S ch : Nat → Int) (b : Int) (l : Nat) : Int := if b = 0 then gPay C S l (ch l + 1) else gPay C S l (ch l + 1) + ch l * S l
def gPick (C S ch : Nat → Int) (b : Int) : Nat := if gCost C S ch b 2 < gCost C S ch b (if gCost C S ch b 1 < gCost C S ch b 0 then 1 else 0) then 2 else (if gCost C S ch b 1 < gCost C S ch b 0 then 1 else 0)
/-- how many players are in each line -/
def gCh (C S : Nat → Int) (b : Int) : Nat → (Nat → Int)
  | 0 => fun _ => 0
  | p + 1 => sr (gCh C S b p) (gPick C S (gCh C S b p) b) (gCh C S b p (gPick C S (gCh C S b p) b) + 1)
def gOk (C S : Nat → Int) : Prop := ∀ l, l < 3 → (0 ≤ C l ∧ C l ≤ 999) ∧ 0 ≤ S l ∧ S l ≤ 99
theorem gPick_lt {C S ch : Nat → Int} {b : Int} : gPick C S ch b < 3 := by
  unfold gPick
  by_cases h1 : gCost C S ch b 1 < gCost C S ch b 0
  · rw [if_pos h1]
    by_cases h2 : gCost C S ch b 2 < gCost C S ch b 1
    · rw [if_pos h2]; decide
    · rw [if_neg h2]; decide
  · rw [if_neg h1]
    by_cases h2 : gCost C S ch b 2 < gCost C S ch b 0
    · rw [if_pos h2]; decide
    · rw [if_neg h2]; decide
theorem gCh_r {C S : Nat → Int} {b : Int} : ∀ p l, 0 ≤ gCh C S b p l ∧ gCh C S b p l ≤ p
  | 0, l => ⟨Int.le_refl 0, Int.le_refl 0⟩
  | p + 1, l => by
    have h1 := gCh_r (C := C) (S := S) (b := b) p l
    have h2 := gCh_r (C := C) (S := S) (b := b) p (gPick C S (gCh C S b p) b)
    show 0 ≤ sr (gCh C S b p) _ _ l ∧ sr (gCh C S b p) _ _ l ≤ ((p + 1 : Nat) : Int)
    by_cases e : l = gPick C S (gCh C S b p) b
    · rw [e, sr_same]; omega
    · rw [sr_ne e]; omega
theorem mul_r {x y a b : Int} (h0 : 0 ≤ x) (hx : x ≤ a) (h1 : 0 ≤ y) (hy : y ≤ b) : 0 ≤ x * y ∧ x * y ≤ a * b := by
  refine ⟨Int.mul_nonneg h0 h1, ?_⟩
  have e1 : x * y ≤ a * y := Int.mul_le_mul_of_nonneg_right hx h1
  have e2 : a * y ≤ a * b := Int.mul_le_mul_of_nonneg_left hy (by omega)
  omega
theorem gPay_r {C S : Nat → Int} {l : Nat} {x : Int} (h : gOk C S) (hl : l < 3) (hx : 0 ≤ x ∧ x ≤ 40) : 0 ≤ gPay C S l x ∧ gPay C S l x ≤ 5000 := by
  obtain ⟨h1, h2⟩ := h l hl
  have := mul_r hx.1 hx.2 h2.1 h2.2
  unfold gPay
  omega
theorem gCost_r {C S ch : Nat → Int} {b : Int} {l : Nat} (h : gOk C S) (hl : l < 3) (hc : 0 ≤ ch l ∧ ch l ≤ 30) : 0 ≤ gCost C S ch b l ∧ gCost C S ch b l ≤ 10000 := by
  have h1 := gPay_r h hl (x := ch l + 1) (by omega)
  obtain ⟨_, h2⟩ := h l hl
  have := mul_r hc.1 hc.2 h2.1 h2.2
  unfold gCost
  by_cases e : b = 0
  · rw [if_pos e]; omega
  · rw [if_neg e]; omega
theorem s_GpayIn {d : Nat} {M : Mem} {l : Nat} {x : Int} (hl : l < 3) : Post (d + 1) cG_payIn [oG, .inl (l : Int), .inl x] M (fun v M' => M' = M ∧ v = gPay (M 144) (M 145) l x) := fun Q hQ => e_G_payIn (b_G_payIn_0 ⟨⟨by omega, by omega⟩, by rw [Int.toNat_natCast]; exact hQ _ _ ⟨rfl, rfl⟩⟩)
theorem s_GcostOfOneMore {d : Nat} {M : Mem} {l : Nat} {b : Int} (hl : l < 3) (hb : R32 b) : Post (d + 2) cG_costOfOneMore [oG, .inl (l : Int), .inl b] M (fun v M' => M' = M ∧ v = gCost (M 144) (M 145) (M 146) b l) := by
  intro Q hQ
  refine e_G_costOfOneMore (b_G_costOfOneMore_0 ⟨⟨by omega, by omega⟩, ?_⟩)
  rw [Int.toNat_natCast]
  refine (s_GpayIn (d := d) hl).cal fun v1 M1 hM1 => ?_
  obtain ⟨rfl, rfl⟩ := hM1
  exact ⟨hb, fun e => hQ _ _ ⟨rfl, by unfold gCost; rw [if_pos e]⟩, fun e => hQ _ _ ⟨rfl, by unfold gCost; rw [if_neg e]⟩⟩
theorem gCost_congr {C S ch ch' : Nat → Int} {b : Int} (h : ∀ l, l < 3 → ch l = ch' l) {l : Nat} (hl : l < 3) : gCost C S ch b l = gCost C S ch' b l := by
  unfold gCost
  rw [h l hl]
theorem gPick_congr {C S ch ch' : Nat → Int} {b : Int} (h : ∀ l, l < 3 → ch l = ch' l) : gPick C S ch b = gPick C S ch' b := by
  unfold gPick
  rw [gCost_congr h (show 0 < 3 by decide), gCost_congr h (show 1 < 3 by decide), gCost_congr h (show 2 < 3 by decide)]
  by_cases e : gCost C S ch' b 1 < gCost C S ch' b 0
  · rw [if_pos e, gCost_congr h (show 1 < 3 by decide)]
  · rw [if_neg e, gCost_congr h (show 0 < 3 by decide)]
theorem chooseC_loop {d : Nat} {Q : Rs → Mem → Prop} {M0 : Mem} {C S : Nat → Int} {b : Int} {P : Nat} (h : gOk C S) (h144 : M0 144 = C) (h145 : M0 145 = S) (hb : R32 b) (hP : P ≤ 30)
    (hQ : ∀ M', Fr [146] M0 M' → (∀ l, l < 3 → M' 146 l = gCh C S b P l) → Q (.inl 0) M') : ∀ (m p : Nat) (M : Mem) (o4 o5 : Option PV), p + m = P → Fr [146] M0 M → (∀ l, l < 3 → M 146 l = gCh C S b p l) → L_G_choose_6 (d + 2) Q M (P : Int) b (p : Int) o4 o5
  | m, p, M, o4, o5, hp, hf, hc => by
    refine b_G_choose_6 ⟨⟨by omega, by omega⟩, ⟨by omega, by omega⟩, fun z => ?_, fun z => ?_⟩
    · have e : p = P := by omega
      subst e
      exact hQ M hf hc
    · cases m with
      | zero => omega
      | succ m =>
        have e4 : M 144 = C := by rw [hf 144 (by simp)]; exact h144
        have e5 : M 145 = S := by rw [hf 145 (by simp)]; exact h145
        have hr : ∀ l, l < 3 → 0 ≤ M 146 l ∧ M 146 l ≤ 30 := fun l hl => by
          rw [hc l hl]
          have := gCh_r (C := C) (S := S) (b := b) p l
          omega
        have cr : ∀ l, l < 3 → 0 ≤ gCost C S (M 146) b l ∧ gCost C S (M 146) b l ≤ 10000 := fun l hl => gCost_r h hl (hr l hl)
        have fin : ∀ (v : Nat), v < 3 → gPick C S (M 146) b = v → L_G_choose_13 (d + 2) Q M (P : Int) b (p : Int) (v : Int) 3 := by
          intro v hv hpk
          refine b_G_choose_13 ⟨⟨by decide, by decide⟩, fun _ => ⟨⟨by omega, by omega⟩, ?_⟩, fun z => absurd (by decide) z⟩
          rw [Int.toNat_natCast]
          refine chooseC_loop h h144 h145 hb hP hQ m (p + 1) _ _ _ (by omega) (hf.u2 (by simp)) fun l hl => ?_
          have hpk' : gPick C S (gCh C S b p) b = v := by rw [← gPick_congr hc]; exact hpk
          show _ = sr (gCh C S b p) (gPick C S (gCh C S b p) b) (gCh C S b p (gPick C S (gCh C S b p) b) + 1) l
          rw [hpk', u2_row, hc v hv]
          by_cases e : l = v
          · subst e; rw [sr_same, sr_same]
          · rw [sr_ne e, sr_ne e]; exact hc l hl
        have two : ∀ (v : Nat), v < 2 → v = (if gCost C S (M 146) b 1 < gCost C S (M 146) b 0 then 1 else 0) → L_G_choose_13 (d + 2) Q M (P : Int) b (p : Int) (v : Int) 2 := by
          intro v hv hpk
          refine b_G_choose_13 ⟨⟨by decide, by decide⟩, fun z => absurd z (by decide), fun _ => ?_⟩
          refine (s_GcostOfOneMore (d := d) (l := 2) (by decide) hb).cal fun v1 M1 hM1 => ?_
          obtain ⟨rfl, rfl⟩ := hM1
          refine (s_GcostOfOneMore (d := d) (l := v) (by omega) hb).cal fun v1 M1 hM1 => ?_
          obtain ⟨rfl, rfl⟩ := hM1
          rw [e4, e5]
          have c2 := cr 2 (by decide)
          have cv := cr v (by omega)
          refine ⟨⟨by omega, by omega⟩, ⟨by omega, by omega⟩, fun z => fin v (by omega) ?_, fun z => fin 2 (by decide) ?_⟩
          · unfold gPick; rw [← hpk, if_neg (by omega)]
          · unfold gPick; rw [← hpk, if_pos (by omega)]
        refine b_G_choose_13 ⟨⟨by decide, by decide⟩, fun z => absurd z (by decide), fun _ => ?_⟩
        refine (s_GcostOfOneMore (d := d) (l := 1) (by decide) hb).cal fun v1 M1 hM1 => ?_
        obtain ⟨rfl, rfl⟩ := hM1
        refine (s_GcostOfOneMore (d := d) (l := 0) (by decide) hb).cal fun v1 M1 hM1 => ?_
        obtain ⟨rfl, rfl⟩ := hM1
        rw [e4, e5]
        have c1 := cr 1 (by decide)
        have c0 := cr 0 (by decide)
        refine ⟨⟨by omega, by omega⟩, ⟨by omega, by omega⟩, fun z => two 0 (by decide) ?_, fun z => two 1 (by decide) ?_⟩
        · rw [if_neg (by omega)]
        · rw [if_pos (by omega)]
theorem s_Gchoose {d : Nat} {M : Mem} {C S : Nat → Int} {b : Int} {P : Nat} (h : gOk C S) (h144 : M 144 = C) (h145 : M 145 = S) (hb : R32 b) (hP : P ≤ 30) : Post (d + 3) cG_choose [oG, .inl (P : Int), .inl b] M (fun _ M' => Fr [146] M M' ∧ ∀ l, l < 3 → M' 146 l = gCh C S b P l) := by
  intro Q hQ
  refine e_G_choose (b_G_choose_0 ?_)
  refine (s_fill (d := d + 1) (r0 := 146) rfl).cal fun v1 M1 hM1 => ?_
  obtain ⟨f1, g1⟩ := hM1
  refine chooseC_loop (d := d) (M0 := M) h h144 h145 hb hP (fun M' k1 k2 => hQ 0 M' ⟨k1, k2⟩) P 0 M1 _ _ (by omega) f1 fun l hl => ?_
  rw [g1 l, if_pos (show l < wAl 146 by have : wAl 146 = 3 := rfl
                                        omega)]
  rfl
/-- what all pay -/
def gSum (C S ch : Nat → Int) : Int := ch 0 * gPay C S 0 (ch 0) + ch 1 * gPay C S 1 (ch 1) + ch 2 * gPay C S 2 (ch 2)
theorem gSum_congr {C S ch ch' : Nat → Int} (h : ∀ l, l < 3 → ch l = ch' l) : gSum C S ch = gSum C S ch' := by
  unfold gSum
  rw [h 0 (by decide), h 1 (by decide), h 2 (by decide)]
theorem gSum_r {C S ch : Nat → Int} (h : gOk C S) (hc : ∀ l, l < 3 → 0 ≤ ch l ∧ ch l ≤ 30) : 0 ≤ gSum C S ch ∧ gSum C S ch ≤ 450000 := by
  have k : ∀ l, l < 3 → 0 ≤ ch l * gPay C S l (ch l) ∧ ch l * gPay C S l (ch l) ≤ 30 * 5000 := fun l hl => by
    have h1 := hc l hl
    have h2 := gPay_r h hl (x := ch l) (by omega)
    exact mul_r h1.1 h1.2 h2.1 h2.2
  have k0 := k 0 (by decide)
  have k1 := k 1 (by decide)
  have k2 := k 2 (by decide)
  unfold gSum
  omega
theorem s_GsumOfPays {d : Nat} {M : Mem} (h : gOk (M 144) (M 145)) (hc : ∀ l, l < 3 → 0 ≤ M 146 l ∧ M 146 l ≤ 30) : Post (d + 2) cG_sumOfPays [oG] M (fun v M' => M' = M ∧ v = gSum (M 144) (M 145) (M 146)) := by
  intro Q hQ
  have step : ∀ (l : Nat) (j : Int), l < 3 → L_G_sumOfPays_4 (d + 1) Q M (j + M 146 l * gPay (M 144) (M 145) l (M 146 l)) ((l : Int) + 1) → L_G_sumOfPays_4 (d + 1) Q M j (l : Int) := by
    intro l j hl hn
    have h1 := hc l hl
    have h2 := gPay_r h hl (x := M 146 l) (by omega)
    refine b_G_sumOfPays_4 ⟨⟨by omega, by omega⟩, fun z => absurd z (by omega), fun _ => ?_⟩
    rw [Int.toNat_natCast]
    refine ⟨⟨by omega, by omega⟩, ⟨by omega, by omega⟩, ?_⟩
    refine (s_GpayIn (d := d) hl).cal fun v1 M1 hM1 => ?_
    obtain ⟨rfl, rfl⟩ := hM1
    exact ⟨⟨by omega, by omega⟩, hn⟩
  refine e_G_sumOfPays (b_G_sumOfPays_0 (step 0 0 (by decide) (step 1 _ (by decide) (step 2 _ (by decide) ?_))))
  refine b_G_sumOfPays_4 ⟨⟨by decide, by decide⟩, fun _ => hQ _ _ ⟨rfl, ?_⟩, fun z => absurd (by decide) z⟩
  unfold gSum
  omega
/-! the reference -/