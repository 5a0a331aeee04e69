/-! The reference's rows: adding, subtracting, multiplying. -/
/-- so far only these places of the row are written -/
def AL (r i : Nat) (M0 M : Mem) : Prop := (∀ a, a ≠ 163 → M a = M0 a) ∧ ∀ p, (∀ j, j < i → p ≠ 300 * r + j) → M 163 p = M0 163 p
theorem AL.rf {r i : Nat} {M0 M : Mem} (h : AL r i M0 M) (hi : i ≤ 300) : RF [r] M0 M := by
  refine ⟨fun a h1 _ => h.1 a h1, fun q _ => by rw [h.1 164 (by decide)], fun q k hq hk => h.2 _ fun j hj e => hq ?_⟩
  have : q = r := by omega
  simp [this]
theorem AL.rdE {r i q : Nat} {M0 M : Mem} (h : AL r i M0 M) (hi : i < 300) : rd M q i = rd M0 q i := by
  unfold rd
  rw [h.1 164 (by decide)]
  by_cases e : (i : Int) < M0 164 q
  · rw [if_pos e, if_pos e]
    exact h.2 _ fun j hj e2 => by omega
  · rw [if_neg e, if_neg e]
theorem AL.step {r i : Nat} {M0 M : Mem} {v : Int} (h : AL r i M0 M) : AL r (i + 1) M0 (upd2 M 163 (300 * r + i) v) := by
  refine ⟨fun a h1 => by rw [u2_off h1]; exact h.1 a h1, fun p hp => ?_⟩
  rw [u2_ne (hp i (by omega))]
  exact h.2 p fun j hj => hp j (by omega)
theorem AL.zero {r : Nat} {M : Mem} : AL r 0 M M := ⟨fun _ _ => rfl, fun _ _ => rfl⟩
theorem raw_lo {f : Nat → Int} {b i : Nat} {x : Int} : bs 10000 (fun j => sr f (b + i) x (b + j)) i = bs 10000 (fun j => f (b + j)) i := bs_congr fun j hj => sr_ne (by omega)
theorem addR_loop {d : Nat} {Q : Rs → Mem → Prop} {r1 r2 r3 e : Nat} {v w : Int} {M0 : Mem} (hd : 1 ≤ d) (h1 : r1 < 200) (h2 : r2 < 200) (h3 : r3 < 200) (hv : Row M0 r1 v) (hw : Row M0 r2 w) (he : e ≤ 300) (hve : M0 164 r1 ≤ e) (hwe : M0 164 r2 ≤ e) (hfit : v + w < 10000 ^ e)
    (hQ : ∀ M', RF [r3] M0 M' → Row M' r3 (v + w) → Q (.inl 0) M') : ∀ (k i : Nat) (M : Mem) (c : Int) (o7 : Option PV), i + k = e → AL r3 i M0 M → (∀ j, j < i → 0 ≤ M 163 (300 * r3 + j) ∧ M 163 (300 * r3 + j) < 10000) → (0 ≤ c ∧ c ≤ 1) →
    bs 10000 (fun j => M 163 (300 * r3 + j)) i + c * 10000 ^ i = bs 10000 (rd M0 r1) i + bs 10000 (rd M0 r2) i → L_M_addRows_25 d Q M (r1 : Int) (r2 : Int) (r3 : Int) (e : Int) c (i : Int) o7 := by
  obtain ⟨d', rfl⟩ : ∃ d', d = d' + 1 := ⟨d - 1, by omega⟩
  have s1 := hv.size
  have s2 := hw.size
  intro k
  induction k with
  | zero =>
    intro i M c o7 hi hA hD hc hI
    have ei : i = e := by omega
    subst ei
    refine b_M_addRows_25 ⟨⟨by omega, by omega⟩, ⟨by omega, by omega⟩, fun _ => ?_, fun h => absurd (Int.le_refl _) h⟩
    refine (s_trims (d := d') h3 he hD).cal fun x M' hM' => ?_
    obtain ⟨f1, g1⟩ := hM'
    have hp := pw_pos DD0 i
    have h0 := bs_nonneg DD0 (n := i) fun j hj => (hD j hj).1
    rw [← hv.at_ hve, ← hw.at_ hwe] at hI
    have : c = 0 := by
      rcases Int.lt_or_le 0 c with h | h
      · have : 1 * 10000 ^ i ≤ c * 10000 ^ i := Int.mul_le_mul_of_nonneg_right h (Int.le_of_lt hp)
        omega
      · omega
    rw [this, Int.zero_mul, Int.add_zero] at hI
    rw [hI] at g1
    exact hQ M' ((hA.rf he).tr f1) g1
  | succ k ih =>
    intro i M c o7 hi hA hD hc hI
    have x1 := hv.1 i
    have x2 := hw.1 i
    have e164 : M 164 = M0 164 := hA.1 164 (by decide)
    refine b_M_addRows_25 ⟨⟨by omega, by omega⟩, ⟨by omega, by omega⟩, fun h => absurd h (by omega), fun _ => ?_⟩
    refine (s_at' (d := d') h1 (by rw [e164]; exact s1) (by omega)).cal fun v1 M1 hM1 => ?_
    obtain ⟨rfl, rfl⟩ := hM1
    refine (s_at' (d := d') h2 (by rw [e164]; exact s2) (by omega)).cal fun v2 M2 hM2 => ?_
    obtain ⟨rfl, rfl⟩ := hM2
    rw [hA.rdE (q := r1) (by omega), hA.rdE (q := r2) (by omega), show (300 * (r3 : Int) + (i : Int)).toNat = 300 * r3 + i by omega]
    refine ⟨⟨by omega, by omega⟩, ⟨by omega, by omega⟩, ?_⟩
    refine ih (i + 1) _ _ _ (by omega) hA.step (fun j hj => ?_) ⟨by omega, by omega⟩ ?_
    · rw [u2_row]
      by_cases q : j = i
      · rw [q, sr_same]; omega
      · rw [sr_ne (by omega)]; exact hD j (by omega)
    · rw [u2_row]
      show bs 10000 (fun j => sr _ (300 * r3 + i) _ (300 * r3 + j)) i + sr _ (300 * r3 + i) _ (300 * r3 + i) * 10000 ^ i + _ * 10000 ^ (i + 1) = bs 10000 (rd M0 r1) i + rd M0 r1 i * 10000 ^ i + (bs 10000 (rd M0 r2) i + rd M0 r2 i * 10000 ^ i)
      rw [raw_lo, sr_same, Int.pow_succ]
      exact pb_step hI (Int.emod_add_mul_ediv _ _)
/-- addRows, also in place -/
theorem s_addRows {d : Nat} {M : Mem} {r1 r2 r3 : Nat} {v w : Int} (h1 : r1 < 200) (h2 : r2 < 200) (h3 : r3 < 200) (hv : Row M r1 v) (hw : Row M r2 w) (hfv : v < 10000 ^ 299) (hfw : w < 10000 ^ 299) :
    Post (d + 2) cM_addRows [oM, .inl (r1 : Int), .inl (r2 : Int), .inl (r3 : Int)] M (fun _ M' => RF [r3] M M' ∧ Row M' r3 (v + w)) := by
  intro Q hQ
  have s1 := hv.size
  have s2 := hw.size
  have t1 := hv.fits hfv
  have t2 := hw.fits hfw
  obtain ⟨m, hm⟩ : ∃ m : Nat, M 164 r1 = m := ⟨(M 164 r1).toNat, by omega⟩
  obtain ⟨n, hn⟩ : ∃ n : Nat, M 164 r2 = n := ⟨(M 164 r2).toNat, by omega⟩
  have a1 := (hv.range hm).1
  have a2 := (hw.range hn).1
  have key : ∀ e : Nat, m + 1 ≤ e → n + 1 ≤ e → e ≤ 300 → ∀ o7, L_M_addRows_25 (d + 1) Q M (r1 : Int) (r2 : Int) (r3 : Int) (e : Int) 0 0 o7 := by
    intro e e1 e2 e3 o7
    obtain ⟨e', rfl⟩ : ∃ e', e = e' + 1 := ⟨e - 1, by omega⟩
    have b1 : (10000 : Int) ^ m ≤ 10000 ^ e' := pw_mono (by decide) (by omega)
    have b2 : (10000 : Int) ^ n ≤ 10000 ^ e' := pw_mono (by decide) (by omega)
    have b3 := pw_pos DD0 e'
    exact addR_loop (M0 := M) (by omega) h1 h2 h3 hv hw e3 (by omega) (by omega) (by rw [Int.pow_succ]; omega) (fun M' f g => hQ 0 M' ⟨f, g⟩) (e' + 1) 0 M 0 _ (by omega) AL.zero (fun j hj => absurd hj (by omega)) ⟨by omega, by omega⟩ (by simp [bs])
  refine e_M_addRows (b_M_addRows_0 ?_)
  rw [Int.toNat_natCast, Int.toNat_natCast, hm, hn]
  refine ⟨⟨by omega, by omega⟩, ⟨by omega, by omega⟩, ⟨by omega, by omega⟩, ⟨by omega, by omega⟩, fun h => ?_, fun h => ?_⟩
  · exact key (n + 1) (by omega) (by omega) (by omega) _
  · exact key (m + 1) (by omega) (by omega) (by omega) _
theorem sbr_step {a b c x y z B P r c' : Int} (ih : r = a - b + c * P) (hs : z = x - y - c + c' * B) : r + z * P = a + x * P - (b + y * P) + c' * (P * B) := by
  rw [ih, hs]; grind
theorem subR_loop {d : Nat} {Q : Rs → Mem → Prop} {r1 r2 r3 e : Nat} {v w : Int} {M0 : Mem} (hd : 1 ≤ d) (h1 : r1 < 200) (h2 : r2 < 200) (h3 : r3 < 200) (hv : Row M0 r1 v) (hw : Row M0 r2 w) (he : M0 164 r1 = e) (hwe : M0 164 r2 ≤ e) (hle : w ≤ v)
    (hQ : ∀ M', RF [r3] M0 M' → Row M' r3 (v - w) → Q (.inl 0) M') : ∀ (k i : Nat) (M : Mem) (c : Int) (o7 : Option PV), i + k = e → AL r3 i M0 M → (∀ j, j < i → 0 ≤ M 163 (300 * r3 + j) ∧ M 163 (300 * r3 + j) < 10000) → (0 ≤ c ∧ c ≤ 1) →
    bs 10000 (fun j => M 163 (300 * r3 + j)) i = bs 10000 (rd M0 r1) i - bs 10000 (rd M0 r2) i + c * 10000 ^ i → L_M_subtractRows_9 d Q M (r1 : Int) (r2 : Int) (r3 : Int) (e : Int) c (i : Int) o7 := by
  obtain ⟨d', rfl⟩ : ∃ d', d = d' + 1 := ⟨d - 1, by omega⟩
  have s1 := hv.size
  have s2 := hw.size
  intro k
  induction k with
  | zero =>
    intro i M c o7 hi hA hD hc hI
    have ei : i = e := by omega
    subst ei
    refine b_M_subtractRows_9 ⟨⟨by omega, by omega⟩, ⟨by omega, by omega⟩, fun _ => ?_, fun h => absurd (Int.le_refl _) h⟩
    refine (s_trims (d := d') h3 (by omega) hD).cal fun x M' hM' => ?_
    obtain ⟨f1, g1⟩ := hM'
    have hp := pw_pos DD0 i
    have h0 := bs_lt DD0 (n := i) (fun j hj => (hD j hj).2) fun j hj => (hD j hj).1
    rw [← hv.at_ (by omega), ← hw.at_ hwe] at hI
    have : c = 0 := by
      rcases Int.lt_or_le 0 c with h | h
      · have : 1 * 10000 ^ i ≤ c * 10000 ^ i := Int.mul_le_mul_of_nonneg_right h (Int.le_of_lt hp)
        omega
      · omega
    rw [this, Int.zero_mul, Int.add_zero] at hI
    rw [hI] at g1
    exact hQ M' ((hA.rf (by omega)).tr f1) g1
  | succ k ih =>
    intro i M c o7 hi hA hD hc hI
    have x1 := hv.1 i
    have x2 := hw.1 i
    have e164 : M 164 = M0 164 := hA.1 164 (by decide)
    refine b_M_subtractRows_9 ⟨⟨by omega, by omega⟩, ⟨by omega, by omega⟩, fun h => absurd h (by omega), fun _ => ?_⟩
    refine (s_at' (d := d') h1 (by rw [e164]; exact s1) (by omega)).cal fun v1 M1 hM1 => ?_
    obtain ⟨rfl, rfl⟩ := hM1
    refine (s_at' (d := d') h2 (by rw [e164]; exact s2) (by omega)).cal fun v2 M2 hM2 => ?_
    obtain ⟨rfl, rfl⟩ := hM2
    rw [hA.rdE (q := r1) (by omega), hA.rdE (q := r2) (by omega), show (300 * (r3 : Int) + (i : Int)).toNat = 300 * r3 + i by omega]
    have key : ∀ (z c' : Int) (o7 : Option PV), (0 ≤ z ∧ z < 10000) → (0 ≤ c' ∧ c' ≤ 1) → z = rd M0 r1 i - rd M0 r2 i - c + c' * 10000 → L_M_subtractRows_9 (d' + 1) Q (upd2 M2 163 (300 * r3 + i) z) (r1 : Int) (r2 : Int) (r3 : Int) (e : Int) c' ((i : Int) + 1) o7 := by
      intro z c' o7 hz hc' hs
      refine ih (i + 1) _ _ _ (by omega) hA.step (fun j hj => ?_) hc' ?_
      · rw [u2_row]
        by_cases q : j = i
        · rw [q, sr_same]; exact hz
        · rw [sr_ne (by omega)]; exact hD j (by omega)
      · rw [u2_row]
        show bs 10000 (fun j => sr _ (300 * r3 + i) _ (300 * r3 + j)) i + sr _ (300 * r3 + i) _ (300 * r3 + i) * 10000 ^ i = bs 10000 (rd M0 r1) i + rd M0 r1 i * 10000 ^ i - (bs 10000 (rd M0 r2) i + rd M0 r2 i * 10000 ^ i) + _ * 10000 ^ (i + 1)
        rw [raw_lo, sr_same, Int.pow_succ]
        exact sbr_step hI hs
    refine ⟨⟨by omega, by omega⟩, fun h => ⟨⟨by omega, by omega⟩, key _ 0 _ ⟨by omega, by omega⟩ ⟨by omega, by omega⟩ (by omega)⟩, fun h => ⟨⟨by omega, by omega⟩, key _ 1 _ ⟨by omega, by omega⟩ ⟨by omega, by omega⟩ (by omega)⟩⟩
/-- subtractRows, also in place -/
theorem s_subtractRows {d : Nat} {M : Mem} {r1 r2 r3 : Nat} {v w : Int} (h1 : r1 < 200) (h2 : r2 < 200) (h3 : r3 < 200) (hv : Row M r1 v) (hw : Row M r2 w) (hle : w ≤ v) :
    Post (d + 2) cM_subtractRows [oM, .inl (r1 : Int), .inl (r2 : Int), .inl (r3 : Int)] M (fun _ M' => RF [r3] M M' ∧ Row M' r3 (v - w)) := by
  intro Q hQ
  have s1 := hv.size
  obtain ⟨m, hm⟩ : ∃ m : Nat, M 164 r1 = m := ⟨(M 164 r1).toNat, by omega⟩
  have hwe := hw.fits (k := m) (Int.lt_of_le_of_lt hle (hv.range hm).1)
  refine e_M_subtractRows (b_M_subtractRows_0 ⟨⟨by omega, by omega⟩, ?_⟩)
  rw [Int.toNat_natCast, hm]
  exact subR_loop (M0 := M) (by omega) h1 h2 h3 hv hw hm hwe hle (fun M' f g => hQ 0 M' ⟨f, g⟩) m 0 M 0 _ (by omega) AL.zero (fun j hj => absurd hj (by omega)) ⟨by omega, by omega⟩ (by simp [bs])
