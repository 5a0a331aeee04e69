/-! Closed nets: the loads, the reference. -/
def clK (n : Nat) (S : Nat → Int) (A : Nat → Nat → Int) : Nat := ctN n A 0 * prA S n
def lqQ (n : Nat) (S : Nat → Int) (A : Nat → Nat → Int) (i : Nat) : Rat := mkRat ((lwN n S A i : Nat) : Int) (clK n S A)
theorem clK_r {n : Nat} {C S : Nat → Int} {A : Nat → Nat → Int} (hO : nOk n C S A) (hcl : closedOk n C A) : 0 < clK n S A ∧ clK n S A ≤ 27000000000000000000 := by
  have h4 := hO.1
  obtain ⟨_, h1, h2⟩ := ctN_is hO hcl (show 0 < n by omega)
  obtain ⟨h3, h5⟩ := prA_r (S := S) (n := n) (fun k hk => hO.2.2.2.2 k (by omega)) n (Nat.le_refl n)
  have h6 : (1000 : Nat) ^ n ≤ 1000 ^ 4 := Nat.pow_le_pow_right (by decide) h4.2
  exact ⟨Nat.mul_pos h1 h3, Nat.le_trans (Nat.mul_le_mul h2 (Nat.le_trans h5 h6)) (by decide)⟩
def clT (n : Nat) (A : Nat → Nat → Int) (r c : Nat) : Rat := if c = n then (if r = 0 then 1 else 0) else if r = 0 then (if c = 0 then 1 else 0) else mkRat ((if r = c then 100 else 0) - A c r) 100
theorem clT_D {n : Nat} {C S : Nat → Int} {A : Nat → Nat → Int} (hO : nOk n C S A) {a c : Nat} (ha : a < n) (hc : c ≤ n) : Wh (clT n A a c * (((100 : Nat) : Int) : Rat)) 1000000 := by
  have h4 := hO.1
  have z0 : Wh ((0 : Rat) * (((100 : Nat) : Int) : Rat)) 1000000 := ⟨0, by show (0 : Rat) * _ = ((0 : Int) : Rat); rw [show ((0 : Int) : Rat) = 0 from rfl]; grind, by omega, by omega⟩
  have z1 : Wh ((1 : Rat) * (((100 : Nat) : Int) : Rat)) 1000000 := ⟨((100 : Nat) : Int), by grind, by omega, by omega⟩
  unfold clT
  by_cases e : c = n
  · rw [if_pos e]
    by_cases e2 : a = 0
    · rw [if_pos e2]; exact z1
    · rw [if_neg e2]; exact z0
  · rw [if_neg e]
    by_cases e2 : a = 0
    · rw [if_pos e2]
      by_cases e3 : c = 0
      · rw [if_pos e3]; exact z1
      · rw [if_neg e3]; exact z0
    · rw [if_neg e2]
      have := hO.2.1.2.2.1 c a (by omega) (by omega)
      refine ⟨_, mk_mul (by decide), ?_, ?_⟩ <;> split <;> omega
theorem clT_sol {n : Nat} {C S : Nat → Int} {A : Nat → Nat → Int} (hO : nOk n C S A) (hcl : closedOk n C A) : (∀ j, j ≤ n → Dd (clT n A) j ≠ 0) ∧ ∀ i, i < n → ansQ (clT n A) n i = mkRat ((ctN n A i : Nat) : Int) (ctN n A 0) := by
  have h4 := hO.1
  obtain ⟨W, hW, hG⟩ := closed_GN hO hcl
  have h100 := mk100_ne
  have h := GN.loads (T := clT n A) (s := 1 / (((100 : Nat) : Int) : Rat)) hG (fun z => h100 (by
      generalize (((100 : Nat) : Int) : Rat) = u at *
      grind)) (fun c hc => by
      show (if c = n then _ else _) = _
      rw [if_neg (by omega), if_pos rfl]) (fun r c h0 h1 h2 => by
      show (if c = n then _ else _) = _
      rw [if_neg (by omega), if_neg (by omega), mk100, clN_at (by omega) (by omega)]
      have e : (((if r = c then 100 else 0) - A c r : Int) : Rat) = (((if c = r then 100 else 0) - A c r : Int) : Rat) := by
        by_cases q : r = c
        · rw [if_pos q, if_pos q.symm]
        · rw [if_neg q, if_neg (fun z => q z.symm)]
      rw [e]
      generalize (((if c = r then 100 else 0) - A c r : Int) : Rat) = u
      generalize (((100 : Nat) : Int) : Rat) = v at *
      grind) (by
      show (if W + 1 = n then _ else _) = _
      rw [if_pos hW.symm, if_pos rfl]) (fun r h0 h1 => by
      show (if W + 1 = n then _ else _) = _
      rw [if_pos hW.symm, if_neg (by omega)])
  rw [← hW] at h
  refine ⟨h.1, fun i hi => ?_⟩
  rw [h.2.2 i hi, mkRat_ratio, (ctN_is hO hcl hi).1, (ctN_is hO hcl (show 0 < n by omega)).1, show W = n - 1 by omega]
theorem lq_div {n i : Nat} {C S : Nat → Int} {A : Nat → Nat → Int} (hO : nOk n C S A) (hcl : closedOk n C A) (hi : i < n) : mkRat ((ctN n A i : Nat) : Int) (ctN n A 0) / ((S i : Int) : Rat) = lqQ n S A i := by
  have h4 := hO.1
  have hS := hO.2.2.2.2 i (by omega)
  obtain ⟨_, h1, _⟩ := ctN_is hO hcl (show 0 < n by omega)
  obtain ⟨h3, _⟩ := prS_r (S := S) (i := i) (n := n) (fun k hk => hO.2.2.2.2 k (by omega)) hi n (Nat.le_refl n)
  rw [mk_div1 h1 (by omega)]
  show _ = mkRat ((ctN n A i * prS S i n : Nat) : Int) (ctN n A 0 * prA S n)
  rw [← prS_mul n hi, Int.natCast_mul, show ctN n A 0 * (prS S i n * (S i).toNat) = ctN n A 0 * (S i).toNat * prS S i n by rw [Nat.mul_comm (prS S i n), Nat.mul_assoc]]
  exact (Rat.mkRat_mul_right (by omega)).symm
abbrev ldRF : List Nat := List.range 74
theorem FR.ldr {l : List Nat} {M M' : Mem} (h : FR l M M') (hl : ∀ a, a ∈ l → a < 74) : FR ldRF M M' := h.mono fun a ha => by
  have := hl a ha
  simp; omega