/-! The shares of a closed net stay. -/
theorem mv_dig' : ∀ n, n < 5 → ∀ s, s < 4 ^ n → ∀ to, to < n → ∀ fr, fr < n → ∀ k, k < n → (!(jS s n == 2) || (jA s to == 0) || (jA (mvS s to fr) k + (if k = to then 1 else 0) == jA s k + (if k = fr then 1 else 0))) = true := by decide +kernel
theorem mv_dig {n s to fr k : Nat} (hn : n < 5) (hs : s < 4 ^ n) (h2 : jS s n = 2) (ht : to < n) (h0 : jA s to ≠ 0) (hf : fr < n) (hk : k < n) : jA (mvS s to fr) k + (if k = to then 1 else 0) = jA s k + (if k = fr then 1 else 0) := by
  have h := mv_dig' n hn s hs to ht fr hf k hk
  rw [Bool.or_eq_true, Bool.or_eq_true, beq_iff_eq, beq_iff_eq, Bool.not_eq_true', beq_eq_false_iff_ne] at h
  rcases h with (h | h) | h
  · exact absurd h2 h
  · exact absurd h h0
  · exact h
theorem shN_mv {w : Nat → Nat} {s s' to fr n : Nat} (h : ∀ k, k < n → jA s' k + (if k = to then 1 else 0) = jA s k + (if k = fr then 1 else 0)) : ∀ m, m ≤ n → shN w s' m * (if to < m then w to else 1) = shN w s m * (if fr < m then w fr else 1)
  | 0, _ => rfl
  | m + 1, hm => by
    have ih := shN_mv (w := w) h m (by omega)
    have hk := h m (by omega)
    have e : ∀ c, (if c < m + 1 then w c else 1) = (if c < m then w c else 1) * w m ^ (if m = c then 1 else 0) := fun c => by
      by_cases z : m = c
      · rw [if_pos z, if_neg (show ¬ c < m by omega), if_pos (show c < m + 1 by omega), z, Nat.pow_one, Nat.one_mul]
      · rw [if_neg z, Nat.pow_zero, Nat.mul_one]
        by_cases y : c < m
        · rw [if_pos y, if_pos (by omega)]
        · rw [if_neg y, if_neg (by omega)]
    show shN w s' m * w m ^ jA s' m * _ = shN w s m * w m ^ jA s m * _
    rw [e, e, Nat.mul_mul_mul_comm, ← Nat.pow_add, ih, hk, Nat.pow_add, ← Nat.mul_mul_mul_comm]
theorem ct_bal {n to : Nat} {C S : Nat → Int} {A : Nat → Nat → Int} (hO : nOk n C S A) (hcl : closedOk n C A) (hto : to < n) : sumT (fun k => ((ctN n A k : Nat) : Int) * A k to) n = 100 * ((ctN n A to : Nat) : Int) := by
  have h4 := hO.1
  obtain ⟨W, hW, hG⟩ := closed_GN hO hcl
  obtain ⟨hD, hv⟩ := clT_sol hO hcl
  have h100 := mk100_ne
  have st := hG.all (z := ansQ (clT n A) n) (fun r h1 h2 => by
    have e := ans_row hD (show r < n by omega)
    have e0 : clT n A r n = 0 := by
      unfold clT
      rw [if_pos rfl, if_neg (by omega)]
    rw [e0, sumQ_congr (g := fun c => (1 / (((100 : Nat) : Int) : Rat)) * (clN n A c r * ansQ (clT n A) n c)) n (fun c hc => by
      have e1 : clT n A r c = (1 / (((100 : Nat) : Int) : Rat)) * clN n A c r := by
        unfold clT
        rw [if_neg (by omega), if_neg (by omega), mk100, clN_at hc (by omega)]
        have e2 : (((if r = c then 100 else 0) - A c r : Int) : Rat) = (((if c = r then 100 else 0) - A c r : Int) : Rat) := by
          by_cases q : r = c
          · rw [if_pos q, if_pos q.symm]
          · rw [if_neg q, if_neg (fun z => q z.symm)]
        rw [e2]
        generalize (((if c = r then 100 else 0) - A c r : Int) : Rat) = u
        generalize (((100 : Nat) : Int) : Rat) = v at *
        grind
      rw [e1]
      generalize (1 / (((100 : Nat) : Int) : Rat)) = u
      generalize clN n A c r = v
      generalize ansQ (clT n A) n c = w
      grind), sumQ_mul] at e
    rw [← hW]
    rcases Rat.mul_eq_zero.mp e with q | q
    · exact absurd q (fun z => h100 (by
        generalize (((100 : Nat) : Int) : Rat) = u at *
        grind))
    · exact q)
  rw [← hW] at st
  have e := st to hto
  obtain ⟨-, c0, -⟩ := ctN_is hO hcl (show 0 < n by omega)
  have hc0 : (((ctN n A 0 : Nat) : Int) : Rat) ≠ 0 := int_ne (by omega)
  have e2 : sumQ (fun c => (((((ctN n A c : Nat) : Int) * ((if c = to then 100 else 0) - A c to)) : Int) : Rat)) n = 0 := by
    rw [sumQ_congr (g := fun c => (((ctN n A 0 : Nat) : Int) : Rat) * (ansQ (clT n A) n c * clN n A c to)) n (fun c hc => by
      rw [hv c hc, mkRat_ratio, clN_at hc hto, Rat.intCast_mul]
      generalize (((ctN n A 0 : Nat) : Int) : Rat) = u at *
      generalize (((ctN n A c : Nat) : Int) : Rat) = v
      generalize ((((if c = to then 100 else 0) - A c to) : Int) : Rat) = w
      grind), sumQ_mul, e]
    grind
  rw [sumQ_cast (f := fun c => ((ctN n A c : Nat) : Int) * ((if c = to then 100 else 0) - A c to))] at e2
  have e3 := Rat.intCast_eq_zero_iff.mp e2
  have e4 : sumT (fun c => ((ctN n A c : Nat) : Int) * ((if c = to then 100 else 0) - A c to)) n = sumT (fun c => (if c = to then 100 * ((ctN n A to : Nat) : Int) else 0) - ((ctN n A c : Nat) : Int) * A c to) n := sumT_congr n fun j hj => by
    by_cases z : j = to
    · rw [if_pos z, if_pos z, z, Int.mul_sub, Int.mul_comm _ (100 : Int)]
    · rw [if_neg z, if_neg z, Int.mul_sub, Int.mul_zero]
  rw [e4, sumT_one, if_pos hto] at e3
  omega
theorem cs_mul {n s to : Nat} {C S : Nat → Int} {A : Nat → Nat → Int} (hO : nOk n C S A) (hs : s < 4 ^ n) (h2 : jS s n = 2) (ht : to < n) (h0 : jA s to ≠ 0) : ∀ j, j ≤ n → ((csN S A (lwN n S A) n s to j : Nat) : Int) * ((lwN n S A to : Nat) : Int) = ((shN (lwN n S A) s n : Nat) : Int) * ((prA S n : Nat) : Int) * sumT (fun k => ((ctN n A k : Nat) : Int) * A k to) j := by
  have h4 := hO.1
  intro j
  induction j with
  | zero => intro _; show ((0 : Nat) : Int) * _ = _ * (0 : Int); rw [Int.mul_zero]; exact Int.zero_mul _
  | succ j ih =>
    intro hj
    have h1 := ih (by omega)
    have hm := shN_mv (w := lwN n S A) (s := s) (s' := mvS s to j) (to := to) (fr := j) (n := n) (fun k hk => mv_dig (by omega) hs h2 ht h0 (by omega) hk) n (Nat.le_refl n)
    rw [if_pos ht, if_pos (show j < n by omega)] at hm
    have hS := hO.2.2.2.2 j (by omega)
    have hA := hO.2.1.2.2.1 j to (by omega) (by omega)
    have hp := prS_mul (S := S) (i := j) n (by omega)
    have el : lwN n S A j = ctN n A j * prS S j n := rfl
    show ((csN S A (lwN n S A) n s to j + ((S j).toNat * (A j to).toNat) * shN (lwN n S A) (mvS s to j) n : Nat) : Int) * _ = _ * _ * (sumT (fun k => ((ctN n A k : Nat) : Int) * A k to) j + ((ctN n A j : Nat) : Int) * A j to)
    obtain ⟨a, ha⟩ : ∃ a : Nat, A j to = a := ⟨(A j to).toNat, by omega⟩
    rw [ha, Int.toNat_natCast, Int.natCast_add, Int.add_mul, h1, Int.mul_add]
    have key : (S j).toNat * a * shN (lwN n S A) (mvS s to j) n * lwN n S A to = shN (lwN n S A) s n * prA S n * (ctN n A j * a) := by
      rw [Nat.mul_assoc, hm, el, ← hp]
      generalize shN (lwN n S A) s n = x
      generalize prS S j n = y
      generalize ctN n A j = z
      generalize (S j).toNat = u
      grind
    have key2 := congrArg (fun x : Nat => (x : Int)) key
    simp only [Int.natCast_mul] at key2 ⊢
    rw [key2]
theorem e4_all {n : Nat} {C S : Nat → Int} {A : Nat → Nat → Int} (hO : nOk n C S A) : e4P n C S A := by
  intro hcl s hs h2
  have h4 := hO.1
  show shN (lwN n S A) s n * lvN S s n = cmN S A (lwN n S A) n s n
  have key : ∀ k, k ≤ n → shN (lwN n S A) s n * lvN S s k = cmN S A (lwN n S A) n s k := by
    intro k
    induction k with
    | zero => intro _; rfl
    | succ k ih =>
      intro hk
      show shN (lwN n S A) s n * (lvN S s k + (if jA s k = 0 then 0 else 100 * (S k).toNat)) = cmN S A (lwN n S A) n s k + (if jA s k = 0 then 0 else csN S A (lwN n S A) n s k n)
      rw [Nat.mul_add, ih (by omega)]
      congr 1
      by_cases e : jA s k = 0
      · rw [if_pos e, if_pos e, Nat.mul_zero]
      · rw [if_neg e, if_neg e]
        have hc := cs_mul hO hs h2 (show k < n by omega) e n (Nat.le_refl n)
        rw [ct_bal hO hcl (show k < n by omega)] at hc
        have hp := prS_mul (S := S) (i := k) n (by omega)
        have el : lwN n S A k = ctN n A k * prS S k n := rfl
        have lp := (lwN_r hO hcl (show k < n by omega)).1
        refine Nat.eq_of_mul_eq_mul_right lp ?_
        refine Int.ofNat_inj.mp ?_
        rw [Int.natCast_mul (csN S A (lwN n S A) n s k n), hc, ← hp, el]
        simp only [Int.natCast_mul]
        generalize ((shN (lwN n S A) s n : Nat) : Int) = x
        generalize ((prS S k n : Nat) : Int) = y
        generalize ((ctN n A k : Nat) : Int) = z
        generalize (((S k).toNat : Nat) : Int) = u
        show x * (100 * u) * (z * y) = x * (y * u) * (100 * z)
        grind
  exact key n (Nat.le_refl n)
theorem e4_ok : E4OK := fun _ h => e4_all h
