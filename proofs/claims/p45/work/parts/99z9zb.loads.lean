/-! Closed nets: the loads, the class. -/
abbrev fullS (n : Nat) : Nat := 2 ^ n - 1
def clN (n : Nat) (A : Nat → Nat → Int) : Nat → Nat → Rat := eNQ 100 A (fullS n) n (-1)
theorem sel_full {n a : Nat} (ha : a < n) : sel (fullS n) n a = a := by
  have hc := cnt_full (m := n) a (by omega)
  have hb : (fullS n).testBit a = true := by
    show (2 ^ n - 1).testBit a = true
    rw [Nat.testBit_two_pow_sub_one]; exact decide_eq_true ha
  have := sel_cnt hb n ha
  rw [show cnt (fullS n) a = a from hc] at this
  exact this
theorem clN_at {n a c : Nat} {A : Nat → Nat → Int} (ha : a < n) (hc : c < n) : clN n A a c = (((if a = c then 100 else 0) - A a c : Int) : Rat) := by
  show ((eN 100 A (fullS n) n (-1) a c : Int) : Rat) = _
  unfold eN
  rw [show cnt (fullS n) n = n from cnt_full n (Nat.le_refl n), if_neg (by omega), sel_full ha, sel_full hc]
theorem closed_GN {n : Nat} {C S : Nat → Int} {A : Nat → Nat → Int} (hO : nOk n C S A) (hcl : closedOk n C A) : ∃ W, n = W + 1 ∧ GN (clN n A) W := by
  have h4 := hO.1
  have pw : 2 ^ n ≤ 2 ^ 4 := Nat.pow_le_pow_right (by decide) h4.2
  have bit : ∀ i, (fullS n).testBit i = true ↔ i < n := fun i => by
    show (2 ^ n - 1).testBit i = true ↔ _
    rw [Nat.testBit_two_pow_sub_one, decide_eq_true_iff]
  obtain ⟨W, hW, hG, _⟩ := grp_GN (s := fullS n) hO.2.1 (fun i hi => hO.2.2.1 i hi) (fun i hi _ => (hcl i hi).2.1) ⟨by show 2 ^ n - 1 < 128; omega, fun i h => (bit i).mp h, ⟨0, (bit 0).mpr (by omega)⟩, fun i j _ _ hj => (bit j).mpr hj, fun i j hi hj => (hcl i ((bit i).mp hi)).2.2 j ((bit j).mp hj)⟩
  rw [show cnt (fullS n) n = n from cnt_full n (Nat.le_refl n)] at hW
  exact ⟨W, hW, hG⟩
def ctN (n : Nat) (A : Nat → Nat → Int) (i : Nat) : Nat := (tcof (clN n A) (n - 1) i).num.toNat
def prS (S : Nat → Int) (i : Nat) : Nat → Nat
  | 0 => 1
  | k + 1 => prS S i k * (if k = i then 1 else (S k).toNat)
def prA (S : Nat → Int) : Nat → Nat
  | 0 => 1
  | k + 1 => prA S k * (S k).toNat
/-- a load, times what all have in common -/
def lwN (n : Nat) (S : Nat → Int) (A : Nat → Nat → Int) (i : Nat) : Nat := ctN n A i * prS S i n
theorem prS_off {S : Nat → Int} {i : Nat} : ∀ k, k ≤ i → prS S i k = prA S k := by
  intro k
  induction k with
  | zero => intro _; rfl
  | succ k ih => intro h; show prS S i k * (if k = i then 1 else (S k).toNat) = prA S k * (S k).toNat; rw [ih (by omega), if_neg (by omega)]
theorem prS_mul {S : Nat → Int} {i : Nat} : ∀ k, i < k → prS S i k * (S i).toNat = prA S k := by
  intro k
  induction k with
  | zero => intro h; exact absurd h (Nat.not_lt_zero _)
  | succ k ih =>
    intro h
    show prS S i k * (if k = i then 1 else (S k).toNat) * (S i).toNat = prA S k * (S k).toNat
    by_cases e : k = i
    · rw [if_pos e, prS_off k (by omega), e, Nat.mul_one]
    · rw [if_neg e, ← ih (by omega), Nat.mul_assoc, Nat.mul_assoc, Nat.mul_comm (S k).toNat]
theorem prS_r {S : Nat → Int} {i : Nat} {n : Nat} (h : ∀ k, k < n → 1 ≤ S k ∧ S k ≤ 1000) (hi : i < n) : ∀ k, k ≤ n → 0 < prS S i k ∧ prS S i k ≤ 1000 ^ (if i < k then k - 1 else k) := by
  intro k
  induction k with
  | zero => intro _; exact ⟨Nat.one_pos, Nat.one_le_pow _ _ (by decide)⟩
  | succ k ih =>
    intro hk
    obtain ⟨h1, h2⟩ := ih (by omega)
    show 0 < prS S i k * (if k = i then 1 else (S k).toNat) ∧ prS S i k * (if k = i then 1 else (S k).toNat) ≤ _
    have hs := h k (by omega)
    by_cases e : k = i
    · rw [if_pos e, Nat.mul_one]
      rw [if_neg (by omega)] at h2
      rw [if_pos (by omega), Nat.add_sub_cancel]
      exact ⟨h1, h2⟩
    · rw [if_neg e]
      refine ⟨Nat.mul_pos h1 (by omega), ?_⟩
      have h3 : prS S i k * (S k).toNat ≤ 1000 ^ (if i < k then k - 1 else k) * 1000 := Nat.mul_le_mul h2 (by omega)
      rw [← Nat.pow_succ] at h3
      by_cases q : i < k
      · rw [if_pos q] at h3
        rw [if_pos (by omega), show k + 1 - 1 = k - 1 + 1 by omega]
        exact h3
      · rw [if_neg q] at h3
        rw [if_neg (by omega)]
        exact h3
theorem prA_r {S : Nat → Int} {n : Nat} (h : ∀ k, k < n → 1 ≤ S k ∧ S k ≤ 1000) : ∀ k, k ≤ n → 0 < prA S k ∧ prA S k ≤ 1000 ^ k := by
  intro k
  induction k with
  | zero => intro _; exact ⟨Nat.one_pos, Nat.le_refl _⟩
  | succ k ih =>
    intro hk
    obtain ⟨h1, h2⟩ := ih (by omega)
    have hs := h k (by omega)
    exact ⟨Nat.mul_pos h1 (by omega), Nat.mul_le_mul h2 (by omega)⟩
theorem p300 : (300 : Int) ^ 3 = 27000000 := by decide
/-- the minors are whole -/
theorem ctN_is {n i : Nat} {C S : Nat → Int} {A : Nat → Nat → Int} (hO : nOk n C S A) (hcl : closedOk n C A) (hi : i < n) : (((ctN n A i : Nat) : Int) : Rat) = tcof (clN n A) (n - 1) i ∧ 0 < ctN n A i ∧ ctN n A i ≤ 27000000 := by
  have h4 := hO.1
  obtain ⟨W, hW, hG⟩ := closed_GN hO hcl
  have hp := hG.2.2.2 i (by omega)
  rw [show W = n - 1 by omega] at hp
  obtain ⟨z, z1, z2, z3⟩ := wed_whole (W := n - 1) (R := fun a c => clN n A (skp i a) (skp i c)) (a := 100) (by decide) (n - 1) (fun a c ha hc => by
    have a1 : skp i a < n := by have := (skp_r (p := i) (c := a) (W := n - 1) (by omega)).mpr ha; omega
    have c1 : skp i c < n := by have := (skp_r (p := i) (c := c) (W := n - 1) (by omega)).mpr hc; omega
    refine ⟨_, clN_at a1 c1, ?_⟩
    have := hO.2.1.2.2.1 (skp i a) (skp i c) (by omega) (by omega)
    split <;> omega) (full (n - 1))
  have e : tcof (clN n A) (n - 1) i = ((z : Int) : Rat) := z1
  rw [e] at hp
  have hz : 0 < z := Rat.intCast_lt_intCast.mp hp
  have b1 : (((n - 1 : Nat) : Int) * 100) ^ (n - 1) ≤ 300 ^ (n - 1) := pw_base (by omega) (by omega) (n - 1)
  have b2 : (300 : Int) ^ (n - 1) ≤ 300 ^ 3 := pw_mono (by decide) (by omega)
  have q := p300
  have ez : ctN n A i = z.toNat := by
    show (tcof (clN n A) (n - 1) i).num.toNat = _
    rw [e, Rat.num_intCast]
  rw [ez, e]
  refine ⟨by rw [show ((z.toNat : Nat) : Int) = z by omega], by omega, by omega⟩
theorem lwN_r {n i : Nat} {C S : Nat → Int} {A : Nat → Nat → Int} (hO : nOk n C S A) (hcl : closedOk n C A) (hi : i < n) : 0 < lwN n S A i ∧ lwN n S A i ≤ 27000000000000000 := by
  have h4 := hO.1
  obtain ⟨_, h1, h2⟩ := ctN_is hO hcl hi
  obtain ⟨h3, h5⟩ := prS_r (S := S) (i := i) (n := n) (fun k hk => hO.2.2.2.2 k (by omega)) hi n (Nat.le_refl n)
  rw [if_pos hi] at h5
  have h6 : (1000 : Nat) ^ (n - 1) ≤ 1000 ^ 3 := Nat.pow_le_pow_right (by decide) (by omega)
  exact ⟨Nat.mul_pos h1 h3, Nat.le_trans (Nat.mul_le_mul h2 (Nat.le_trans h5 h6)) (by decide)⟩
/-- the place of k without i -/
def pwo (i k : Nat) : Nat := if k ≤ i then k else k - 1
theorem pwo_skp {i a : Nat} : pwo i (skp i a) = a := by
  unfold pwo skp
  split <;> split <;> omega
theorem pwo_lt {i k l : Nat} (hk : k ≠ i) (h : k < l) : pwo i k < pwo i l := by
  unfold pwo
  split <;> split <;> omega
theorem pwo_next {i k : Nat} (h : k ≠ i) : pwo i (k + 1) = pwo i k + 1 := by
  unfold pwo
  split <;> split <;> omega
theorem pwo_self {i : Nat} : pwo i (i + 1) = pwo i i := by
  unfold pwo
  split <;> split <;> omega
theorem pwo_r {i k n : Nat} (hi : i < n) (hk : k < n) (h : k ≠ i) : pwo i k < n - 1 := by
  unfold pwo
  split <;> omega
theorem s_minorWithout {d : Nat} {M : Mem} {n i : Nat} {C S : Nat → Int} {A : Nat → Nat → Int} (hN : NC M n C S A) (hO : nOk n C S A) (hcl : closedOk n C A) (hi : i < n) : Post (d + 3) cN_minorWithout [oN, .inl (i : Int)] M (fun v M' => Fr nsqC M M' ∧ v = ((ctN n A i : Nat) : Int)) := by
  intro Q hQ
  have h4 := hO.1
  refine e_N_minorWithout (b_N_minorWithout_0 ?_)
  have cell : ∀ a c, a < n → c < n → -100 ≤ (if a = c then 100 else 0) - A a c ∧ (if a = c then 100 else 0) - A a c ≤ 100 := fun a c ha hc => by
    have := hO.2.1.2.2.1 a c (by omega) (by omega)
    split <;> omega
  have outer : ∀ (g k : Nat), k + g = n → ∀ M1 o4 o5, Fr nsqC M M1 → (∀ a c, a < k → a ≠ i → c < n → c ≠ i → M1 (84 + pwo i a) (pwo i c) = (if a = c then 100 else 0) - A a c) → L_N_minorWithout_4 (d + 2) Q M1 (i : Int) ((pwo i k : Nat) : Int) (k : Int) o4 o5 := by
    intro g
    induction g with
    | zero =>
      intro k hk M1 o4 o5 f1 hall
      have hk : k = n := by omega
      subst hk
      refine b_N_minorWithout_4 ?_
      rw [(hN.sq f1).1, show pwo i k = k - 1 by unfold pwo; rw [if_neg (by omega)]]
      refine ⟨⟨by omega, by omega⟩, ⟨by omega, by omega⟩, fun _ => ?_, fun z => absurd (Int.le_refl _) z⟩
      refine (s_det (d := d) isSq81 (show k - 1 ≤ 6 by omega)).cal fun v2 M2 hM2 => ?_
      obtain ⟨f2, g2⟩ := hM2
      refine hQ _ _ ⟨f1.tr (f2.mono (by simp)), Rat.intCast_inj.mp ?_⟩
      rw [g2, (ctN_is hO hcl hi).1]
      refine congrFun (wed_cells (k - 1) fun a c ha hc => ?_) _
      have a1 : skp i a < k := by have := (skp_r (p := i) (c := a) (W := k - 1) (by omega)).mpr ha; omega
      have c1 : skp i c < k := by have := (skp_r (p := i) (c := c) (W := k - 1) (by omega)).mpr hc; omega
      have := hall (skp i a) (skp i c) a1 skp_ne c1 skp_ne
      rw [pwo_skp, pwo_skp] at this
      show ((M1 (81 + 3 + a) c : Int) : Rat) = clN k A (skp i a) (skp i c)
      rw [show 81 + 3 + a = 84 + a by omega, this, clN_at a1 c1]
    | succ g ih =>
      intro k hk M1 o4 o5 f1 hall
      refine b_N_minorWithout_4 ?_
      rw [(hN.sq f1).1]
      refine ⟨⟨by omega, by omega⟩, ⟨by omega, by omega⟩, fun z => absurd z (by omega), fun _ => ?_⟩
      have fin : ∀ M3 o4 o5, Fr nsqC M M3 → (∀ a c, a < k + 1 → a ≠ i → c < n → c ≠ i → M3 (84 + pwo i a) (pwo i c) = (if a = c then 100 else 0) - A a c) → L_N_minorWithout_44 (d + 2) Q M3 (i : Int) ((pwo i k : Nat) : Int) (k : Int) o4 o5 := fun M3 o4 o5 f3 hall3 => by
        refine b_N_minorWithout_44 ⟨⟨by omega, by omega⟩, ⟨by omega, by omega⟩, fun z => ?_, fun z => ?_⟩
        · rw [show ((pwo i k : Nat) : Int) + 1 = ((pwo i (k + 1) : Nat) : Int) by rw [pwo_next (show k ≠ i by omega)]; omega, show (k : Int) + 1 = ((k + 1 : Nat) : Int) by omega]
          exact ih (k + 1) (by omega) M3 _ _ f3 hall3
        · have e : k = i := by omega
          rw [show ((pwo i k : Nat) : Int) + 0 = ((pwo i (k + 1) : Nat) : Int) by rw [e, pwo_self]; omega, show (k : Int) + 1 = ((k + 1 : Nat) : Int) by omega]
          exact ih (k + 1) (by omega) M3 _ _ f3 hall3
      have inner : ∀ (h j : Nat), j + h = n → ∀ M3, Fr nsqC M M3 → (∀ a c, a < k → a ≠ i → c < n → c ≠ i → M3 (84 + pwo i a) (pwo i c) = (if a = c then 100 else 0) - A a c) → (k ≠ i → ∀ c, c < j → c ≠ i → M3 (84 + pwo i k) (pwo i c) = (if k = c then 100 else 0) - A k c) → L_N_minorWithout_12 (d + 2) Q M3 (i : Int) ((pwo i k : Nat) : Int) (k : Int) ((pwo i j : Nat) : Int) (j : Int) := by
        intro h
        induction h with
        | zero =>
          intro j hj M3 f3 hall3 hrow
          have hj : j = n := by omega
          subst hj
          refine b_N_minorWithout_12 ?_
          rw [(hN.sq f3).1]
          refine ⟨⟨by omega, by omega⟩, ⟨by omega, by omega⟩, fun _ => fin M3 _ _ f3 fun a c ha hn hc hcn => ?_, fun z => absurd (Int.le_refl _) z⟩
          by_cases e : a = k
          · subst e; exact hrow hn c hc hcn
          · exact hall3 a c (by omega) hn hc hcn
        | succ h ihh =>
          intro j hj M3 f3 hall3 hrow
          have N3 := hN.sq f3
          refine b_N_minorWithout_12 ?_
          obtain ⟨r1, r2, r3⟩ := wra138 k (by omega)
          have hc := cell k j (by omega) (by omega)
          rw [N3.1, Int.toNat_natCast, Int.toNat_natCast, r1, r2, r3, N3.2.2.2 k j (by omega) (by omega)]
          refine ⟨⟨by omega, by omega⟩, ⟨by omega, by omega⟩, fun z => absurd z (by omega), fun _ => ⟨⟨by omega, by omega⟩, ⟨by omega, by omega⟩, fun z => fin M3 _ _ f3 fun a c ha hn hc hcn => hall3 a c (by omega) hn hc hcn, fun z => ⟨fun z2 => ?_, fun z2 => ?_⟩⟩⟩
          · have e : j = i := by omega
            rw [show ((pwo i j : Nat) : Int) = ((pwo i (j + 1) : Nat) : Int) by rw [e, pwo_self], show (j : Int) + 1 = ((j + 1 : Nat) : Int) by omega]
            exact ihh (j + 1) (by omega) M3 f3 hall3 fun hk c hc hcn => hrow hk c (by omega) hcn
          · have hkn : k ≠ i := by omega
            have hjn : j ≠ i := by omega
            have pk := pwo_r hi (show k < n by omega) hkn
            have pj := pwo_r hi (show j < n by omega) hjn
            have st : ∀ v, v = (if k = j then 100 else 0) - A k j → cald (d + 2) cS_put [.inr (.inr (.inl 81)), .inl ((pwo i k : Nat) : Int), .inl ((pwo i j : Nat) : Int), .inr (.inl v)] M3 (fun r M4 => Rt r (fun _v2 => L_N_minorWithout_12 (d + 2) Q M4 (i : Int) ((pwo i k : Nat) : Int) (k : Int) (((pwo i j : Nat) : Int) + 1) ((j : Int) + 1)) (fun x => Q (.inr x) M4)) := fun v hv => by
              refine (s_Nput (d := d + 1) (show pwo i k < 6 by omega) (show pwo i j < 6 by omega)).cal fun v5 M5 hM5 => ?_
              subst hM5
              rw [show (j : Int) + 1 = ((j + 1 : Nat) : Int) by omega, show ((pwo i j : Nat) : Int) + 1 = ((pwo i (j + 1) : Nat) : Int) by rw [pwo_next hjn]; omega]
              refine ihh (j + 1) (by omega) _ (f3.u2 (nsq_in (by omega))) (fun a c ha hn hc hcn => ?_) fun hk c hc hcn => ?_
              · have := pwo_lt hn ha
                rw [u2_off (by omega)]; exact hall3 a c ha hn hc hcn
              · by_cases e : c = j
                · rw [e, u2_same]; exact hv
                · have := pwo_lt hcn (show c < j by omega)
                  rw [u2_ne (by omega)]; exact hrow hk c (by omega) hcn
            refine ⟨fun z3 => ⟨⟨by omega, by omega⟩, rfl, ⟨by omega, by omega⟩, ?_, st _ ?_⟩, fun z3 => ⟨⟨by omega, by omega⟩, rfl, ⟨by omega, by omega⟩, ?_, st _ ?_⟩⟩
            · rw [if_neg (by omega)] at hc
              exact ⟨by omega, by omega⟩
            · rw [if_neg (by omega)]
            · rw [if_pos (by omega)] at hc
              exact ⟨by omega, by omega⟩
            · rw [if_pos (by omega)]
      exact inner n 0 (by omega) M1 f1 hall fun _ c h => absurd h (Nat.not_lt_zero c)
  exact outer n 0 (by omega) M _ _ Fr.rfl' fun a c h => absurd h (Nat.not_lt_zero a)
abbrev ldC : List Nat := [141, 83, 84, 85, 86, 87, 88, 89]
theorem NC.ld {M M' : Mem} {n : Nat} {C S : Nat → Int} {A : Nat → Nat → Int} (h : NC M n C S A) (hf : Fr ldC M M') : NC M' n C S A := h.kept hf (by decide) (by decide) (by decide) fun i hi => by simp; omega
theorem s_findLoads {d : Nat} {M : Mem} {n : Nat} {C S : Nat → Int} {A : Nat → Nat → Int} (hN : NC M n C S A) (hO : nOk n C S A) (hcl : closedOk n C A) : Post (d + 4) cN_findLoads [oN] M (fun _ M' => Fr ldC M M' ∧ ∃ g : Nat, 0 < g ∧ (∀ i, i < n → g ∣ lwN n S A i) ∧ ∀ i, i < n → M' 141 i = ((lwN n S A i / g : Nat) : Int)) := by
  intro Q hQ
  have h4 := hO.1
  refine e_N_findLoads (b_N_findLoads_0 ?_)
  have last : ∀ g : Nat, 0 < g → g ≤ 27000000000000000 → (∀ i, i < n → g ∣ lwN n S A i) → ∀ (f k : Nat), k + f = n → ∀ M1 o4 o5 o6, Fr ldC M M1 → (∀ j, j < n → M1 141 j = ((if j < k then lwN n S A j / g else lwN n S A j : Nat) : Int)) → L_N_findLoads_46 (d + 3) Q M1 (g : Int) (k : Int) o4 o5 o6 := by
    intro g g0 g1 gd f
    induction f with
    | zero =>
      intro k hk M1 o4 o5 o6 f1 hall
      have hk : k = n := by omega
      subst hk
      refine b_N_findLoads_46 ?_
      rw [(hN.ld f1).1]
      refine ⟨⟨by omega, by omega⟩, ⟨by omega, by omega⟩, fun _ => hQ _ _ ⟨f1, g, g0, gd, fun i hi => ?_⟩, fun z => absurd (Int.le_refl _) z⟩
      rw [hall i hi, if_pos hi]
    | succ f ih =>
      intro k hk M1 o4 o5 o6 f1 hall
      have lw := lwN_r hO hcl (show k < n by omega)
      have hk' := hall k (by omega)
      rw [if_neg (Nat.lt_irrefl k)] at hk'
      refine b_N_findLoads_46 ?_
      rw [(hN.ld f1).1, Int.toNat_natCast, hk']
      refine ⟨⟨by omega, by omega⟩, ⟨by omega, by omega⟩, fun z => absurd z (by omega), fun _ => ⟨⟨by omega, by omega⟩, fun z => hQ _ _ ⟨f1, g, g0, gd, fun i hi => ?_⟩, fun z => ⟨⟨by omega, by omega⟩, ⟨by omega, by omega⟩, ⟨by omega, by omega⟩, ?_⟩⟩⟩
      · have e : g = 1 := by omega
        rw [hall i hi, e, Nat.div_one]
        split <;> rfl
      · rw [show (k : Int) + 1 = ((k + 1 : Nat) : Int) by omega, show ((lwN n S A k : Nat) : Int) / (g : Int) = ((lwN n S A k / g : Nat) : Int) from rfl]
        refine ih (k + 1) (by omega) _ _ _ _ (f1.u2 (by simp)) fun j hj => ?_
        by_cases e : j = k
        · rw [e, u2_same, if_pos (Nat.lt_succ_self k)]
        · rw [u2_ne e, hall j hj]
          by_cases q : j < k
          · rw [if_pos q, if_pos (by omega)]
          · rw [if_neg q, if_neg (by omega)]
  have outer : ∀ (f k : Nat), k + f = n → ∀ (c : Nat) M1 o4 o5 o6, Fr ldC M M1 → (∀ j, j < k → M1 141 j = ((lwN n S A j : Nat) : Int)) → (∀ j, j < k → c ∣ lwN n S A j) → (0 < k → 0 < c) → c ≤ 27000000000000000 → L_N_findLoads_4 (d + 3) Q M1 (c : Int) (k : Int) o4 o5 o6 := by
    intro f
    induction f with
    | zero =>
      intro k hk c M1 o4 o5 o6 f1 hall hd hp hc
      have hk : k = n := by omega
      subst hk
      refine b_N_findLoads_4 ?_
      rw [(hN.ld f1).1]
      refine ⟨⟨by omega, by omega⟩, ⟨by omega, by omega⟩, fun _ => last c (hp (by omega)) hc hd k 0 (by omega) M1 _ _ _ f1 fun j hj => ?_, fun z => absurd (Int.le_refl _) z⟩
      rw [hall j hj, if_neg (Nat.not_lt_zero j)]
    | succ f ih =>
      intro k hk c M1 o4 o5 o6 f1 hall hd hp hc
      refine b_N_findLoads_4 ?_
      rw [(hN.ld f1).1]
      refine ⟨⟨by omega, by omega⟩, ⟨by omega, by omega⟩, fun z => absurd z (by omega), fun _ => ?_⟩
      have hkn : k < n := by omega
      refine (s_minorWithout (d := d) (hN.ld f1) hO hcl hkn).cal fun v2 M2 hM2 => ?_
      obtain ⟨f2, rfl⟩ := hM2
      have F2 := f1.tr (f2.mono (l' := ldC) (by simp))
      have N2 := hN.ld F2
      have h141 : M2 141 = M1 141 := f2 141 (by decide)
      have inner : ∀ (g m : Nat), m + g = n → L_N_findLoads_14 (d + 3) Q M2 (c : Int) (k : Int) ((ctN n A k * prS S k m : Nat) : Int) (m : Int) := by
        intro g
        induction g with
        | zero =>
          intro m hm
          have hm : m = n := by omega
          subst hm
          have lw := lwN_r hO hcl hkn
          refine b_N_findLoads_14 ?_
          rw [N2.1]
          refine ⟨⟨by omega, by omega⟩, ⟨by omega, by omega⟩, fun _ => ⟨⟨by omega, by omega⟩, ?_⟩, fun z => absurd (Int.le_refl _) z⟩
          rw [Int.toNat_natCast, show ctN m A k * prS S k m = lwN m S A k from rfl]
          refine (s_gcd (d := d + 2) (x := lwN m S A k) (y := c) (by omega) (by omega)).cal fun v3 M3 hM3 => ?_
          obtain ⟨rfl, rfl⟩ := hM3
          rw [show (k : Int) + 1 = ((k + 1 : Nat) : Int) by omega]
          refine ih (k + 1) (by omega) _ _ _ _ _ (F2.u2 (by simp)) (fun j hj => ?_) (fun j hj => ?_) (fun _ => Nat.gcd_pos_of_pos_left _ lw.1) (Nat.le_trans (Nat.gcd_le_left _ lw.1) lw.2)
          · by_cases e : j = k
            · rw [e, u2_same]
            · rw [u2_ne e, h141]; exact hall j (by omega)
          · by_cases e : j = k
            · rw [e]; exact Nat.gcd_dvd_left _ _
            · exact Nat.dvd_trans (Nat.gcd_dvd_right _ _) (hd j (by omega))
        | succ g ihg =>
          intro m hm
          have hs := hO.2.2.2.2 m (by omega)
          have st := ihg (m + 1) (by omega)
          rw [show prS S k (m + 1) = prS S k m * (if m = k then 1 else (S m).toNat) from rfl, ← Nat.mul_assoc, Int.natCast_mul] at st
          refine b_N_findLoads_14 ?_
          rw [N2.1, Int.toNat_natCast, Int.toNat_natCast, N2.2.2.1 m (by omega), show (m : Int) + 1 = ((m + 1 : Nat) : Int) by omega]
          refine ⟨⟨by omega, by omega⟩, ⟨by omega, by omega⟩, fun z => absurd z (by omega), fun _ => ⟨⟨by omega, by omega⟩, fun z => ⟨⟨by omega, by omega⟩, ⟨by omega, by omega⟩, ?_⟩, fun z => ?_⟩⟩
          · rw [if_neg (show ¬ m = k by omega), show (((S m).toNat : Nat) : Int) = S m by omega] at st
            exact st
          · rw [if_pos (show m = k by omega)] at st
            exact st
      have := inner n 0 (by omega)
      rw [show prS S k 0 = 1 from rfl, Nat.mul_one] at this
      exact this
  exact outer n 0 (by omega) 0 M _ _ _ Fr.rfl' (fun j h => absurd h (Nat.not_lt_zero j)) (fun j h => absurd h (Nat.not_lt_zero j)) (fun h => absurd h (Nat.lt_irrefl 0)) (by omega)
