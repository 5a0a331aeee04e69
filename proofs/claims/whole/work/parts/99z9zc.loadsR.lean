/-! Closed nets: the loads, the reference. -/
def clK (n : Nat) (S : Nat → Int) (A : Nat → Nat → Int) : Nat := ctN n A 0 * prA S n
def lqQ (n : Nat) (S : Nat → Int) (A : Nat → Nat → Int) (i : Nat) : Rat := mkRat ((lwN n S A i : Nat) : Int) (clK n S A)
theorem clK_r {n : Nat} {C S : Nat → Int} {A : Nat → Nat → Int} (hO : nOk n C S A) (hcl : closedOk n C A) : 0 < clK n S A ∧ clK n S A ≤ 27000000000000000000 := by
  have h4 := hO.1
  obtain ⟨_, h1, h2⟩ := ctN_is hO hcl (show 0 < n by omega)
  obtain ⟨h3, h5⟩ := prA_r (S := S) (n := n) (fun k hk => hO.2.2.2.2 k (by omega)) n (Nat.le_refl n)
  have h6 : (1000 : Nat) ^ n ≤ 1000 ^ 4 := Nat.pow_le_pow_right (by decide) h4.2
  exact ⟨Nat.mul_pos h1 h3, Nat.le_trans (Nat.mul_le_mul h2 (Nat.le_trans h5 h6)) (by decide)⟩
def clT (n : Nat) (A : Nat → Nat → Int) (r c : Nat) : Rat := if c = n then (if r = 0 then 1 else 0) else if r = 0 then (if c = 0 then 1 else 0) else mkRat ((if r = c then 100 else 0) - A c r) 100
theorem clT_D {n : Nat} {C S : Nat → Int} {A : Nat → Nat → Int} (hO : nOk n C S A) {a c : Nat} (ha : a < n) (hc : c ≤ n) : Wh (clT n A a c * (((100 : Nat) : Int) : Rat)) 1000000 := by
  have h4 := hO.1
  have z0 : Wh ((0 : Rat) * (((100 : Nat) : Int) : Rat)) 1000000 := ⟨0, by show (0 : Rat) * _ = ((0 : Int) : Rat); rw [show ((0 : Int) : Rat) = 0 from rfl]; grind, by omega, by omega⟩
  have z1 : Wh ((1 : Rat) * (((100 : Nat) : Int) : Rat)) 1000000 := ⟨((100 : Nat) : Int), by grind, by omega, by omega⟩
  unfold clT
  by_cases e : c = n
  · rw [if_pos e]
    by_cases e2 : a = 0
    · rw [if_pos e2]; exact z1
    · rw [if_neg e2]; exact z0
  · rw [if_neg e]
    by_cases e2 : a = 0
    · rw [if_pos e2]
      by_cases e3 : c = 0
      · rw [if_pos e3]; exact z1
      · rw [if_neg e3]; exact z0
    · rw [if_neg e2]
      have := hO.2.1.2.2.1 c a (by omega) (by omega)
      refine ⟨_, mk_mul (by decide), ?_, ?_⟩ <;> split <;> omega
theorem clT_sol {n : Nat} {C S : Nat → Int} {A : Nat → Nat → Int} (hO : nOk n C S A) (hcl : closedOk n C A) : (∀ j, j ≤ n → Dd (clT n A) j ≠ 0) ∧ ∀ i, i < n → ansQ (clT n A) n i = mkRat ((ctN n A i : Nat) : Int) (ctN n A 0) := by
  have h4 := hO.1
  obtain ⟨W, hW, hG⟩ := closed_GN hO hcl
  have h100 := mk100_ne
  have h := GN.loads (T := clT n A) (s := 1 / (((100 : Nat) : Int) : Rat)) hG (fun z => h100 (by
      generalize (((100 : Nat) : Int) : Rat) = u at *
      grind)) (fun c hc => by
      show (if c = n then _ else _) = _
      rw [if_neg (by omega), if_pos rfl]) (fun r c h0 h1 h2 => by
      show (if c = n then _ else _) = _
      rw [if_neg (by omega), if_neg (by omega), mk100, clN_at (by omega) (by omega)]
      have e : (((if r = c then 100 else 0) - A c r : Int) : Rat) = (((if c = r then 100 else 0) - A c r : Int) : Rat) := by
        by_cases q : r = c
        · rw [if_pos q, if_pos q.symm]
        · rw [if_neg q, if_neg (fun z => q z.symm)]
      rw [e]
      generalize (((if c = r then 100 else 0) - A c r : Int) : Rat) = u
      generalize (((100 : Nat) : Int) : Rat) = v at *
      grind) (by
      show (if W + 1 = n then _ else _) = _
      rw [if_pos hW.symm, if_pos rfl]) (fun r h0 h1 => by
      show (if W + 1 = n then _ else _) = _
      rw [if_pos hW.symm, if_neg (by omega)])
  rw [← hW] at h
  refine ⟨h.1, fun i hi => ?_⟩
  rw [h.2.2 i hi, mkRat_ratio, (ctN_is hO hcl hi).1, (ctN_is hO hcl (show 0 < n by omega)).1, show W = n - 1 by omega]
theorem lq_div {n i : Nat} {C S : Nat → Int} {A : Nat → Nat → Int} (hO : nOk n C S A) (hcl : closedOk n C A) (hi : i < n) : mkRat ((ctN n A i : Nat) : Int) (ctN n A 0) / ((S i : Int) : Rat) = lqQ n S A i := by
  have h4 := hO.1
  have hS := hO.2.2.2.2 i (by omega)
  obtain ⟨_, h1, _⟩ := ctN_is hO hcl (show 0 < n by omega)
  obtain ⟨h3, _⟩ := prS_r (S := S) (i := i) (n := n) (fun k hk => hO.2.2.2.2 k (by omega)) hi n (Nat.le_refl n)
  rw [mk_div1 h1 (by omega)]
  show _ = mkRat ((ctN n A i * prS S i n : Nat) : Int) (ctN n A 0 * prA S n)
  rw [← prS_mul n hi, Int.natCast_mul, show ctN n A 0 * (prS S i n * (S i).toNat) = ctN n A 0 * (S i).toNat * prS S i n by rw [Nat.mul_comm (prS S i n), Nat.mul_assoc]]
  exact (Rat.mkRat_mul_right (by omega)).symm
abbrev ldRF : List Nat := List.range 74
theorem FR.ldr {l : List Nat} {M M' : Mem} (h : FR l M M') (hl : ∀ a, a ∈ l → a < 74) : FR ldRF M M' := h.mono fun a ha => by
  have := hl a ha
  simp; omega
theorem s_laysLoads {d : Nat} {M : Mem} {n : Nat} {C S : Nat → Int} {A : Nat → Nat → Int} (hN : NR M n C S A) (hO : nOk n C S A) (hcl : closedOk n C A) : Post (d + 7) cM_laysLoads [oM] M (fun _ M' => FR ldRF M M' ∧ ∀ i, i < n → FQ M' (70 + i) (lqQ n S A i)) := by
  intro Q hQ
  have h4 := hO.1
  obtain ⟨Tne, Tans⟩ := clT_sol hO hcl
  have nrk : ∀ {M1 : Mem}, FR ldRF M M1 → NR M1 n C S A := fun h => hN.kept h.fm (by simp) (by simp) (by simp) (by simp)
  have fs : ∀ {M1 M2 : Mem}, FR solF M1 M2 → FR ldRF M1 M2 := fun h => h.mono fun a ha => by simp at ha ⊢; omega
  refine e_M_laysLoads (b_M_laysLoads_0 ?_)
  rw [hN.1]
  refine (s_emptiesTable (d := d) (n := n) (by omega)).cal fun v1 M1 hM1 => ?_
  obtain ⟨f1, t1⟩ := hM1
  have last : ∀ (f k : Nat), k + f = n → ∀ M2 o2, FR ldRF M M2 → (∀ i, i < n → FQ M2 (56 + i) (mkRat ((ctN n A i : Nat) : Int) (ctN n A 0))) → (∀ i, i < k → FQ M2 (70 + i) (lqQ n S A i)) → L_M_laysLoads_66 (d + 6) Q M2 (k : Int) o2 := by
    intro f
    induction f with
    | zero =>
      intro k hk M2 o2 f2 q2 l2
      have hk : k = n := by omega
      subst hk
      refine b_M_laysLoads_66 ?_
      rw [(nrk f2).1]
      exact ⟨⟨by omega, by omega⟩, ⟨by omega, by omega⟩, fun _ => hQ _ _ ⟨f2, l2⟩, fun z => absurd (Int.le_refl _) z⟩
    | succ f ih =>
      intro k hk M2 o2 f2 q2 l2
      have N2 := nrk f2
      have hS := hO.2.2.2.2 k (by omega)
      obtain ⟨_, t0, t0'⟩ := ctN_is hO hcl (show 0 < n by omega)
      obtain ⟨_, tk, tk'⟩ := ctN_is hO hcl (show k < n by omega)
      refine b_M_laysLoads_66 ?_
      rw [N2.1, Int.toNat_natCast, N2.2.2.1 k (by omega)]
      refine ⟨⟨by omega, by omega⟩, ⟨by omega, by omega⟩, fun z => absurd z (by omega), fun _ => ⟨⟨by omega, by omega⟩, ⟨by omega, by omega⟩, ?_⟩⟩
      refine (s_sets (d := d + 1) (i := 64) (x := S k) (y := 1) (by decide) (by omega) (by decide) (by decide)).cal fun v3 M3 hM3 => ?_
      obtain ⟨f3, g3⟩ := hM3
      rw [mk_one] at g3
      have bs : Bd ((S k : Int) : Rat) 1 := by
        rw [← mk_one]
        obtain ⟨T, hT⟩ : ∃ T : Nat, S k = T := ⟨(S k).toNat, by omega⟩
        rw [hT]
        exact Bd_mk (by decide) (by have : (10000 : Int) ^ 1 = 10000 := by decide
                                    omega) (by decide)
      have p2 : (10000 : Int) ^ 2 = 100000000 := by decide
      have bq : Bd (mkRat ((ctN n A k : Nat) : Int) (ctN n A 0)) 2 := Bd_mk t0 (by omega) (by omega)
      have hSR : (0 : Rat) < ((S k : Int) : Rat) := cast_pos (by omega)
      rw [show 56 + (k : Int) = ((56 + k : Nat) : Int) by omega, show 70 + (k : Int) = ((70 + k : Nat) : Int) by omega]
      refine (s_divides (d := d + 1) (a := 56 + k) (b := 64) (c := 70 + k) (ka := 2) (kb := 1) (by omega) (by decide) (by omega) ((q2 k (by omega)).kept f3 (by omega) (by simp; omega)) g3 (by grind) bq bs (by decide)).cal fun v4 M4 hM4 => ?_
      obtain ⟨f4, g4⟩ := hM4
      rw [lq_div hO hcl (show k < n by omega)] at g4
      rw [show (k : Int) + 1 = ((k + 1 : Nat) : Int) by omega]
      refine ih (k + 1) (by omega) M4 _ ((f2.tr (f3.ldr (by simp))).tr (f4.ldr (by simp; omega))) (fun i hi => ((q2 i hi).kept f3 (by omega) (by simp; omega)).kept f4 (by omega) (by simp; omega)) fun i hi => ?_
      by_cases e : i = k
      · rw [e]; exact g4
      · exact ((l2 i (by omega)).kept f3 (by omega) (by simp; omega)).kept f4 (by omega) (by simp; omega)
  have rows : ∀ (g r : Nat), r + g = n → 1 ≤ r → ∀ M2 o2, FR ldRF M M2 → (∀ a c, a < n → c ≤ n → FQ M2 (8 * a + c) (if 0 < a ∧ a < r then clT n A a c else 0)) → L_M_laysLoads_6 (d + 6) Q M2 (r : Int) o2 := by
    intro g
    induction g with
    | zero =>
      intro r hr h1 M2 o2 f2 t2
      have hr : r = n := by omega
      subst hr
      refine b_M_laysLoads_6 ?_
      rw [(nrk f2).1]
      refine ⟨⟨by omega, by omega⟩, ⟨by omega, by omega⟩, fun _ => ?_, fun z => absurd (Int.le_refl _) z⟩
      refine (s_place (d := d + 5) (i := 0) (j := 0)).cal fun v3 M3 hM3 => ?_
      obtain ⟨e3, rfl⟩ := hM3
      rw [e3]
      refine (s_sets (d := d + 1) (i := 8 * 0 + 0) (x := 1) (y := 1) (by omega) (by decide) (by decide) (by decide)).cal fun v4 M4 hM4 => ?_
      obtain ⟨f4, g4⟩ := hM4
      rw [mkOne] at g4
      have F4 := f2.tr (f4.ldr (by simp))
      rw [(nrk F4).1]
      refine (s_place (d := d + 5) (i := 0) (j := r)).cal fun v5 M5 hM5 => ?_
      obtain ⟨e5, rfl⟩ := hM5
      rw [e5]
      refine (s_sets (d := d + 1) (i := 8 * 0 + r) (x := 1) (y := 1) (by omega) (by decide) (by decide) (by decide)).cal fun v6 M6 hM6 => ?_
      obtain ⟨f6, g6⟩ := hM6
      rw [mkOne] at g6
      have F6 := F4.tr (f6.ldr (by simp; omega))
      rw [(nrk F6).1]
      refine (s_solves (d := d) (n := r) (T := clT r A) (D := ((100 : Nat) : Int)) (by omega) (by omega) (fun a c ha hc => clT_D hO ha hc) Tne fun a c ha hc => ?_).cal fun v7 M7 hM7 => ?_
      · have old := t2 a c ha hc
        by_cases e : a = 0
        · by_cases e2 : c = r
          · rw [e, e2, show clT r A 0 r = 1 by unfold clT; rw [if_pos rfl, if_pos rfl]]
            exact g6
          · by_cases e3 : c = 0
            · rw [e, e3, show clT r A 0 0 = 1 by unfold clT; rw [if_neg (by omega), if_pos rfl, if_pos rfl]]
              exact g4.kept f6 (by decide) (by simp; omega)
            · have := (old.kept f4 (by omega) (by simp; omega)).kept f6 (by omega) (by simp; omega)
              rw [if_neg (by omega)] at this
              rw [show clT r A a c = 0 by unfold clT; rw [if_neg e2, if_pos e, if_neg e3]]
              exact this
        · have := (old.kept f4 (by omega) (by simp; omega)).kept f6 (by omega) (by simp; omega)
          rw [if_pos (by omega)] at this
          exact this
      · obtain ⟨f7, g7⟩ := hM7
        refine last r 0 (by omega) M7 _ (F6.tr (fs f7)) (fun i hi => ?_) fun i h => absurd h (Nat.not_lt_zero i)
        have := g7 i hi
        rw [Tans i hi] at this
        exact this
    | succ g ih =>
      intro r hr h1 M2 o2 f2 t2
      refine b_M_laysLoads_6 ?_
      rw [(nrk f2).1]
      refine ⟨⟨by omega, by omega⟩, ⟨by omega, by omega⟩, fun z => absurd z (by omega), fun _ => ?_⟩
      have inner : ∀ (h c : Nat), c + h = n → ∀ M3, FR ldRF M M3 → (∀ a c', a < n → c' ≤ n → FQ M3 (8 * a + c') (if (0 < a ∧ a < r) ∨ (a = r ∧ c' < c) then clT n A a c' else 0)) → L_M_laysLoads_12 (d + 6) Q M3 (r : Int) (c : Int) := by
        intro h
        induction h with
        | zero =>
          intro c hc M3 f3 t3
          have hc : c = n := by omega
          subst hc
          refine b_M_laysLoads_12 ?_
          rw [(nrk f3).1, show (r : Int) + 1 = ((r + 1 : Nat) : Int) by omega]
          refine ⟨⟨by omega, by omega⟩, ⟨by omega, by omega⟩, fun _ => ?_, fun z => absurd (Int.le_refl _) z⟩
          refine ih (r + 1) (by omega) (by omega) M3 _ f3 fun a c' ha hc' => ?_
          have := t3 a c' ha hc'
          by_cases e : a = r ∧ c' = c
          · rw [if_neg (by omega)] at this
            rw [if_pos (by omega), show clT c A a c' = 0 by unfold clT; rw [if_pos e.2, if_neg (by omega)]]
            exact this
          · by_cases e2 : 0 < a ∧ a < r + 1
            · rw [if_pos (by omega)] at this
              rw [if_pos e2]; exact this
            · rw [if_neg (by omega)] at this
              rw [if_neg e2]; exact this
        | succ h ihh =>
          intro c hc M3 f3 t3
          have N3 := nrk f3
          have hA := hO.2.1.2.2.1 c r (by omega) (by omega)
          have nx : ∀ M4, FR [8 * r + c] M3 M4 → FQ M4 (8 * r + c) (mkRat ((if r = c then 100 else 0) - A c r) 100) → L_M_laysLoads_12 (d + 6) Q M4 (r : Int) ((c : Int) + 1) := fun M4 f4 g4 => by
            rw [show (c : Int) + 1 = ((c + 1 : Nat) : Int) by omega]
            refine ihh (c + 1) (by omega) M4 (f3.tr (f4.ldr (by simp; omega))) fun a c' ha hc' => ?_
            by_cases e : a = r ∧ c' = c
            · rw [if_pos (by omega), e.1, e.2, show clT n A r c = mkRat ((if r = c then 100 else 0) - A c r) 100 by unfold clT; rw [if_neg (by omega), if_neg (by omega)]]
              exact g4
            · have := (t3 a c' ha hc').kept f4 (by omega) (by simp; omega)
              by_cases e2 : (0 < a ∧ a < r) ∨ (a = r ∧ c' < c)
              · rw [if_pos e2] at this
                rw [if_pos (by omega)]; exact this
              · rw [if_neg e2] at this
                rw [if_neg (by omega)]; exact this
          refine b_M_laysLoads_12 ?_
          rw [N3.1]
          refine ⟨⟨by omega, by omega⟩, ⟨by omega, by omega⟩, fun z => absurd z (by omega), fun _ => ?_⟩
          refine (s_place (d := d + 5) (i := r) (j := c)).cal fun v4 M4 hM4 => ?_
          obtain ⟨e4, rfl⟩ := hM4
          rw [e4, show (4 * (c : Int) + (r : Int)).toNat = 4 * c + r by omega, N3.2.2.2 c r (by omega) (by omega)]
          refine ⟨⟨by omega, by omega⟩, fun z => ?_, fun z => ?_⟩
          · rw [if_neg (by omega)] at nx
            refine ⟨⟨by omega, by omega⟩, ⟨by omega, by omega⟩, ?_⟩
            refine (s_sets (d := d + 1) (i := 8 * r + c) (x := 0 - A c r) (y := 100) (by omega) (by omega) (by decide) (by decide)).cal fun v5 M5 hM5 => ?_
            exact nx M5 hM5.1 hM5.2
          · rw [if_pos (by omega)] at nx
            refine ⟨⟨by omega, by omega⟩, ⟨by omega, by omega⟩, ?_⟩
            refine (s_sets (d := d + 1) (i := 8 * r + c) (x := 100 - A c r) (y := 100) (by omega) (by omega) (by decide) (by decide)).cal fun v5 M5 hM5 => ?_
            exact nx M5 hM5.1 hM5.2
      refine inner n 0 (by omega) M2 f2 fun a c' ha hc' => ?_
      have := t2 a c' ha hc'
      by_cases e : 0 < a ∧ a < r
      · rw [if_pos e] at this
        rw [if_pos (Or.inl e)]; exact this
      · rw [if_neg e] at this
        rw [if_neg (by omega)]; exact this
  refine rows (n - 1) 1 (by omega) (Nat.le_refl 1) M1 _ (fs f1) fun a c ha hc => ?_
  rw [if_neg (by omega)]
  exact t1 a c ha hc
