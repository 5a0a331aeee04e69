/-! First come, first served: what an envelope says of the times. -/
theorem last_on {f : Nat → Int} (h : ∀ k, 0 ≤ f k) : ∀ m, sumN f m = 0 ∨ ∃ k, k < m ∧ 0 < f k ∧ sumN f m = sumN f (k + 1)
  | 0 => Or.inl rfl
  | m + 1 => by
    rcases Int.lt_or_le 0 (f m) with z | z
    · exact Or.inr ⟨m, Nat.lt_succ_self m, z, rfl⟩
    · have h0 : f m = 0 := Int.le_antisymm z (h m)
      have e : sumN f (m + 1) = sumN f m := by
        show sumN f m + f m = _
        omega
      rcases last_on h m with w | ⟨k, k1, k2, k3⟩
      · exact Or.inl (e.trans w)
      · exact Or.inr ⟨k, by omega, k2, e.trans k3⟩
section FI
variable {n : Nat} {J : Nat → Int} {t : Int}
def FIv (J : Nat → Int) (t : Int) (x : SG) : Prop := (x.2.1 ++ x.1).Pairwise (· < ·) ∧ ∀ k, k < x.2.2.1 → ∃ i, i ≤ k ∧ (if x.2.2.2 0 k = 3 then t + sumN (rxS x) (k + 1) else x.2.2.2 3 k) ≤ J (4 * i) + wTo J (k + 1) - wTo J i
theorem fi_in1 (hV : VJ n J) (ht : 0 ≤ t) {y : SG} (hp : PVi n 1 t y) (h : FIv J t y) (hn : y.2.2.1 < n) (hJ : J (4 * y.2.2.1) = t) : FIv J t (sIn1 J (1 + 24) t y) := by
  have hroom : (y.1.length : Int) + y.2.1.length < 1 + 24 := by
    have := hp.2.2.2.2.2.2.2.1
    have := hV.1
    omega
  have hF := fun c k => (sIn1_F (J := J) (cap := 1 + 24) (t := t) (x := y)).2.2 c k
  have e : sIn1 J (1 + 24) t y = (y.1 ++ [y.2.2.1], y.2.1, y.2.2.1 + 1, upd2 (inF J t y.2.2.1 y.2.2.2) 0 y.2.2.1 3) := by unfold sIn1; rw [if_pos hroom]
  have hn1 : (sIn1 J (1 + 24) t y).2.2.1 = y.2.2.1 + 1 := by rw [e]
  have hp1 := sIn1_pvi (cap := 1 + 24) ht hV hp hn
  have hrx : ∀ k, k < y.2.2.1 → rxS (sIn1 J (1 + 24) t y) k = rxS y k := fun k hk => by
    unfold rxS
    rw [hn1, hF 0 k (by omega), hF 1 k (by omega)]
    by_cases q : y.2.2.2 0 k = 3
    · rw [if_pos ⟨by omega, q⟩, if_pos ⟨by omega, q⟩]
    · rw [if_neg (fun z => q z.2), if_neg (fun z => q z.2)]
  have hs : ∀ m, m ≤ y.2.2.1 → sumN (rxS (sIn1 J (1 + 24) t y)) m = sumN (rxS y) m := fun m hm => sumN_congr m fun k hk => hrx k (by omega)
  have h3 : (sIn1 J (1 + 24) t y).2.2.2 0 y.2.2.1 = 3 := by
    rw [e]
    have h9 : upd2 (inF J t y.2.2.1 y.2.2.2) 0 y.2.2.1 3 0 y.2.2.1 = 3 := u2_same
    exact h9
  have hnew : rxS (sIn1 J (1 + 24) t y) y.2.2.1 = J (4 * y.2.2.1 + 1) := by
    rw [rx_on (by rw [hn1]; exact Nat.lt_succ_self _) h3, e]
    show upd2 (inF J t y.2.2.1 y.2.2.2) 0 y.2.2.1 3 1 y.2.2.1 = _
    rw [u2_off (by decide)]
    exact u2_same
  refine ⟨?_, fun k hk => ?_⟩
  · rw [e]
    show (y.2.1 ++ (y.1 ++ [y.2.2.1])).Pairwise (· < ·)
    rw [← List.append_assoc]
    refine List.pairwise_append.mpr ⟨h.1, List.pairwise_singleton _ _, fun a ha b hb => ?_⟩
    rw [List.mem_singleton.mp hb]
    exact hp.2.2.1 a (List.mem_append.mpr ((List.mem_append.mp ha).symm))
  · rw [hn1] at hk
    by_cases z : k < y.2.2.1
    · obtain ⟨i, hi, h2⟩ := h.2 k z
      refine ⟨i, hi, ?_⟩
      rw [hF 0 k (by omega), hF 3 k (by omega), hs (k + 1) (by omega)]
      exact h2
    · obtain rfl : k = y.2.2.1 := by omega
      rw [if_pos h3]
      have ew : wTo J (y.2.2.1 + 1) = wTo J y.2.2.1 + J (4 * y.2.2.1 + 1) := rfl
      have es : sumN (rxS (sIn1 J (1 + 24) t y)) (y.2.2.1 + 1) = sumN (rxS y) y.2.2.1 + J (4 * y.2.2.1 + 1) := by
        show sumN _ y.2.2.1 + rxS _ y.2.2.1 = _
        rw [hs _ (Nat.le_refl _), hnew]
      rw [es]
      rcases last_on (fun k => (rx_nn hp k).1) y.2.2.1 with w | ⟨k, k1, k2, k3⟩
      · exact ⟨y.2.2.1, Nat.le_refl _, by omega⟩
      · obtain ⟨i, hi, h2⟩ := h.2 k k1
        have hk3 : y.2.2.2 0 k = 3 := (hp.2.2.2.2.1 k k1).1.mpr ((rx_nn hp k).2.mp k2)
        rw [if_pos hk3, ← k3] at h2
        have hm := wTo_mono hV (i := k + 1) (k := y.2.2.1) (by omega) (by omega)
        exact ⟨i, by omega, by omega⟩
theorem fi_in (hV : VJ n J) (ht : 0 ≤ t) : ∀ (f : Nat) (y : SG), PVi n 1 t y → FIv J t y → (∀ i, i < n → y.2.2.1 ≤ i → t ≤ J (4 * i)) → FIv J t (sIn n J (1 + 24) t f y)
  | 0, _, _, h, _ => h
  | f + 1, y, hp, h, hJ => by
    unfold sIn
    by_cases q : y.2.2.1 < n ∧ J (4 * y.2.2.1) ≤ t
    · rw [if_pos q]
      have hn1 : (sIn1 J (1 + 24) t y).2.2.1 = y.2.2.1 + 1 := by unfold sIn1; split <;> rfl
      have h0 := hJ _ q.1 (Nat.le_refl _)
      exact fi_in hV ht f _ (sIn1_pvi ht hV hp q.1) (fi_in1 hV ht hp h q.1 (by omega)) fun i hi hi2 => hJ i hi (by rw [hn1] at hi2; omega)
    · rw [if_neg q]
      exact h
theorem seat0 {y : SG} : ∀ f : Nat, ((sSeat J 1 0 t f y).2.1 ++ (sSeat J 1 0 t f y).1 = y.2.1 ++ y.1 ∧ (y.2.1 ≠ [] → sSeat J 1 0 t f y = y)) ∧ (0 < f → (sSeat J 1 0 t f y).2.1 = [] → (sSeat J 1 0 t f y).1 = [])
  | 0 => ⟨⟨rfl, fun _ => rfl⟩, fun z => absurd z (by decide)⟩
  | f + 1 => by
    unfold sSeat
    by_cases q : ((y.2.1.length : Nat) : Int) < 1 ∧ 0 < y.1.length
    · rw [if_pos q]
      have h0 : y.2.1 = [] := List.length_eq_zero_iff.mp (by omega)
      obtain ⟨a, r, hr⟩ : ∃ a r, y.1 = a :: r := by
        rcases h : y.1 with _ | ⟨a, r⟩
        · rw [h] at q; exact absurd q.2 (by decide)
        · exact ⟨a, r, rfl⟩
      have e1 : (sSeat1 J 0 t y).1 = r := by
        show y.1.eraseIdx (plc J 0 y.1 y.2.2.2) = r
        rw [hr]; rfl
      have e2 : (sSeat1 J 0 t y).2.1 = [a] := by
        show y.2.1.insertIdx (ipl y.2.1 (y.1.getD (plc J 0 y.1 y.2.2.2) 0) y.2.1.length) (y.1.getD (plc J 0 y.1 y.2.2.2) 0) = [a]
        rw [hr, h0]; rfl
      obtain ⟨⟨g1, g2⟩, g3⟩ := seat0 (y := sSeat1 J 0 t y) f
      have g2 := g2 (by rw [e2]; exact List.cons_ne_nil _ _)
      rw [g2, e1, e2, h0, hr]
      exact ⟨⟨rfl, fun z => absurd rfl z⟩, fun _ z => absurd z (List.cons_ne_nil _ _)⟩
    · rw [if_neg q]
      refine ⟨⟨rfl, fun _ => rfl⟩, fun _ z => ?_⟩
      rw [z] at q
      have : ¬ 0 < y.1.length := fun w => q ⟨by decide, w⟩
      exact List.length_eq_zero_iff.mp (by omega)
theorem fi_seat {y : SG} (h : FIv J t y) : FIv J t (sSeat J 1 0 t 24 y) := by
  obtain ⟨s1, s2⟩ := seat_F (J := J) (many := 1) (by_ := 0) (t := t) 24 y
  refine ⟨by rw [(seat0 24).1.1]; exact h.1, fun k hk => ?_⟩
  rw [s1] at hk
  obtain ⟨i, hi, h2⟩ := h.2 k hk
  refine ⟨i, hi, ?_⟩
  rw [s2 0 k (by decide), s2 3 k (by decide), sumN_congr (k + 1) fun l _ => rx_seat 24 y l]
  exact h2
theorem fi_work {z : SG} (hp : PVi n 1 t z) (h : FIv J t z) (hz : z.2.1 = [] → z.1 = []) : FIv J (t + 1) (sWork 0 t z) := by
  have hnx := work_nx (by_ := 0) hp
  have h3 : ∀ i, i ∈ z.2.1 → z.2.2.2 0 i = 3 := fun i hi => (hp.2.2.2.2.1 i (hp.2.2.1 i (List.mem_append_right _ hi))).1.mpr (List.mem_append_right _ hi)
  have hw := (wk_F (by_ := 0) (t := t) z.2.1 (z.1, [], z.2.2.1, z.2.2.2) (List.nodup_append.mp hp.2.1).2.1 h3).2
  rcases Nat.eq_zero_or_pos z.2.1.length with e | e
  · have e0 := List.length_eq_zero_iff.mp e
    have e1 := hz e0
    have es : sWork 0 t z = (z.1, [], z.2.2.1, z.2.2.2) := by unfold sWork; rw [e0]; rfl
    rw [es]
    refine ⟨by show ([] ++ z.1).Pairwise (· < ·); rw [e1]; exact List.Pairwise.nil, fun k hk => ?_⟩
    obtain ⟨i, hi, h2⟩ := h.2 k hk
    have n3 : ¬ z.2.2.2 0 k = 3 := fun w => by
      have := (hp.2.2.2.2.1 k hk).1.mp w
      rw [e0, e1] at this
      cases this
    rw [if_neg n3] at h2
    exact ⟨i, hi, by show (if z.2.2.2 0 k = 3 then _ else z.2.2.2 3 k) ≤ _; rw [if_neg n3]; exact h2⟩
  · obtain ⟨b, hb⟩ := srv1 hp e
    have hbm : b ∈ z.1 ++ z.2.1 := List.mem_append_right _ (by rw [hb]; exact List.mem_cons_self)
    have hbn := hp.2.2.1 b hbm
    have hb3 := (hp.2.2.2.2.1 b hbn).1.mpr hbm
    have hord := h.1
    rw [hb] at hord
    have hlt : ∀ k, k ∈ z.1 → b < k := fun k hk => (List.pairwise_cons.mp hord).1 k hk
    have hrx := rx_work1 (by_ := 0) hp hb
    have hdec : ∀ k, b ≤ k → sumN (rxS (sWork 0 t z)) (k + 1) = sumN (rxS z) (k + 1) - 1 := fun k hk => by
      rw [hrx, sumN_one (f := sr (rxS z) b (rxS z b - 1)) (g := rxS z) (m := b) (k + 1) (by omega) (fun l _ hl => sr_ne hl), sr_same]
      omega
    rw [hb] at hw
    have hw2 : ∀ k, (k ≠ b → ∀ c, (sWork 0 t z).2.2.2 c k = z.2.2.2 c k) ∧ (k = b → (sWork 0 t z).2.2.2 1 k = z.2.2.2 1 k - 1 ∧ ((sWork 0 t z).2.2.2 0 k = 3 ∨ ((sWork 0 t z).2.2.2 0 k = 0 ∧ (sWork 0 t z).2.2.2 3 k = t + 1))) := fun k => by
      have h1 : sWork 0 t z = sWk 0 t [b] (z.1, [], z.2.2.1, z.2.2.2) := by unfold sWork; rw [hb]
      rw [h1]
      exact ⟨fun w => (hw k).1 (fun u => w (List.mem_singleton.mp u)), fun w => ⟨((hw k).2 (by rw [w]; exact List.mem_cons_self)).1, ((hw k).2 (by rw [w]; exact List.mem_cons_self)).2.1⟩⟩
    refine ⟨?_, fun k hk => ?_⟩
    · unfold sWork
      rw [hb]
      unfold sWk
      by_cases q : z.2.2.2 1 b - 1 ≤ 0
      · rw [if_pos q]
        exact (List.pairwise_cons.mp hord).2
      · rw [if_neg q, if_neg (by decide)]
        exact hord
    · rw [hnx] at hk
      obtain ⟨i, hi, h2⟩ := h.2 k hk
      refine ⟨i, hi, ?_⟩
      by_cases w : k = b
      · subst w
        rw [if_pos hb3] at h2
        rcases ((hw2 k).2 rfl).2 with u | ⟨u, u2⟩
        · rw [if_pos u, hdec k (Nat.le_refl _)]
          omega
        · rw [if_neg (by rw [u]; decide), u2]
          have hpos := (rx_nn hp k).2.mpr hbm
          have hnn := sumN_nn (f := rxS z) k fun l _ => (rx_nn hp l).1
          have : sumN (rxS z) (k + 1) = sumN (rxS z) k + rxS z k := rfl
          omega
      · have hF := (hw2 k).1 w
        rw [hF 0, hF 3]
        by_cases u : z.2.2.2 0 k = 3
        · rw [if_pos u] at h2 ⊢
          have hm := (hp.2.2.2.2.1 k hk).1.mp u
          rw [hb] at hm
          have hk1 : k ∈ z.1 := by
            rcases List.mem_append.mp hm with v | v
            · exact v
            · exact absurd (List.mem_singleton.mp v) w
          have := hlt k hk1
          rw [hdec k (by omega)]
          omega
        · rw [if_neg u] at h2 ⊢
          exact h2
theorem fi_at (hV : VJ n J) : ∀ t : Nat, FIv J (t : Int) (sAt n J 1 0 24 999 t)
  | 0 => ⟨List.Pairwise.nil, fun k hk => absurd hk (Nat.not_lt_zero k)⟩
  | t + 1 => by
    have hI := at_inv (by_ := 0) (space := 24) (wait := 999) hV (Int.le_refl 1) t
    obtain ⟨e, -, hp⟩ := mid_rx (by_ := 0) hV hI
    have h1 := fi_in hV (by omega) 24 _ hI.1 (fi_at hV t) hI.2.2.1
    have h2 := fi_seat h1
    have h3 := fi_work (sSeat_pvi (J := J) (by_ := 0) (by omega) 24 _ hp) h2 (fun z => (seat0 24).2 (by decide) z)
    show FIv J ((t + 1 : Nat) : Int) (sWork 0 (t : Int) (sMid n J 1 0 24 999 (t : Int) (sAt n J 1 0 24 999 t)))
    rw [e]
    exact h3
theorem e5_all (hV : VJ n J) {b a p : Int} (hb : 0 ≤ b) (ha : 0 ≤ a) (hp : 1 ≤ p) : e5P n J b a p := fun hap hfit T hT => by
  refine (maxN_le hb n).mpr fun k hk => ?_
  have hI := at_inv (by_ := 0) (space := 24) (wait := 999) hV (Int.le_refl 1) T
  obtain ⟨q1, -, -, q4⟩ := off_all (J := J) hI.1 hT.2
  obtain ⟨i, hi, h2⟩ := (fi_at hV T).2 k (by omega)
  rw [if_neg (q4 k hk).1] at h2
  have hf := hfit i k hi hk
  have hJ := hV.le hi hk
  have h5 : (J (4 * k) - J (4 * i)) * a ≤ (J (4 * k) - J (4 * i)) * p := Int.mul_le_mul_of_nonneg_left hap (by omega)
  have h6 := Int.le_of_mul_le_mul_right (Int.le_trans hf h5) (by omega)
  unfold pTime
  omega
end FI
