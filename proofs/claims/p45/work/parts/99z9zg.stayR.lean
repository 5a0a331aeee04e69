/-! errors: the long shares stay, the reference. -/
theorem tree_ex {n s : Nat} {b : Int} {A : Nat → Nat → Int} (hO : cOk n b A) : ∃ t : Nat → Int, ∀ i, i < n → treV n s b A i (t i) := by
  have h : ∀ i, ∃ v, treV n s b A i v := fun i => by
    cases hb : s.testBit i
    · exact ⟨0, Or.inr ⟨hb, rfl⟩⟩
    · obtain ⟨z, z1, _⟩ := wed_whole (W := cnt (s ^^^ 2 ^ i) n) (R := eNQ b A (s ^^^ 2 ^ i) n (-1)) (a := 100) (by decide) (cnt (s ^^^ 2 ^ i) n) (fun a c ha hc => ⟨_, rfl, eN_r hO (Or.inl rfl) ha (Nat.le_of_lt hc)⟩) (full (cnt (s ^^^ 2 ^ i) n))
      exact ⟨z, Or.inl ⟨hb, z1.symm⟩⟩
  exact ⟨fun i => Classical.choose (h i), fun i _ => Classical.choose_spec (h i)⟩
theorem selT {n s : Nat} {f : Nat → Int} (h : ∀ j, j < n → s.testBit j = false → f j = 0) : sumT (fun a => f (sel s n a)) (cnt s n) = sumT f n := by
  have e := sum_sel (s := s) (f := fun j => ((f j : Int) : Rat)) n
  rw [sumQ_congr (g := fun j => ((f j : Int) : Rat)) n fun j hj => ?_, sumQ_cast (f := f), sumQ_cast (f := fun a => f (sel s n a))] at e
  · exact Rat.intCast_inj.mp e
  · cases hb : s.testBit j
    · rw [if_neg (by decide), h j hj hb]; rfl
    · rw [if_pos rfl]
theorem sumK_mono {f : Nat → Nat} {m k : Nat} (h : m ≤ k) : sumK f m ≤ sumK f k := by
  induction k with
  | zero => rw [show m = 0 by omega]; exact Nat.le_refl _
  | succ k ih =>
    by_cases e : m = k + 1
    · rw [e]; exact Nat.le_refl _
    · have := ih (by omega)
      show sumK f m ≤ sumK f k + f k
      omega
theorem sumK_cast {f : Nat → Nat} {g : Nat → Int} : ∀ m, (∀ j, j < m → ((f j : Nat) : Int) = g j) → ((sumK f m : Nat) : Int) = sumT g m := by
  intro m
  induction m with
  | zero => intro _; rfl
  | succ m ih => intro h; show ((sumK f m + f m : Nat) : Int) = sumT g m + g m; rw [Int.natCast_add, ih fun j hj => h j (by omega), h m (by omega)]
/-- the long shares over one number -/
theorem sh_nat {n s b : Nat} {A : Nat → Nat → Int} (hO : cOk n (b : Int) A) (hla : lawful n (b : Int) A) (hG : isGrp n (cE n A (-1)) s) : ∃ (u : Nat → Nat) (U : Nat), 0 < U ∧ U ≤ 400000000000000000 ∧ (∀ a, a < cnt s n → shQ b A s n a = mkRat ((u a : Nat) : Int) U ∧ u a ≤ 46656000000000000) ∧ sumK u (cnt s n) = U ∧ ∀ k, k < cnt s n → sumK (fun a => (A (sel s n a) (sel s n k)).toNat * u a) (cnt s n) = b * u k := by
  have h7 := hO.1
  obtain ⟨t, ht⟩ := tree_ex (s := s) hO
  obtain ⟨W, hW, hN, hv, hr, hs1, hs2, hs3⟩ := tree_val hO hla hG ht
  obtain ⟨W', hW', _, _, _, _, _, hsh⟩ := grp_shares hO (fun a ha => Int.le_of_eq (hla a ha)) (fun a ha _ => hla a ha) hG
  have eW : W' = W := by omega
  subst eW
  have h600 : (600 : Int) ^ 6 = 46656000000000000 := by decide +kernel
  have zt : ∀ j, j < n → s.testBit j = false → t j = 0 := fun j hj hb => by
    rcases ht j hj with ⟨q, _⟩ | ⟨_, h⟩
    · rw [hb] at q; cases q
    · exact h
  have hu : ∀ a, a < cnt s n → (((t (sel s n a)).toNat : Nat) : Int) = t (sel s n a) := fun a ha => by
    have := hr _ (sel_in ha).1
    omega
  refine ⟨fun a => (t (sel s n a)).toNat, (sumT t n).toNat, by omega, by omega, fun a ha => ⟨?_, ?_⟩, ?_, fun k hk => ?_⟩
  · obtain ⟨a1, a2, a3⟩ := sel_in ha
    have e := hv _ a1 a2
    rw [a3] at e
    rw [hsh a ha, hW', ← hs1, ← e, mkRat_ratio, hu a ha, show (((sumT t n).toNat : Nat) : Int) = sumT t n by omega]
  · show (t (sel s n a)).toNat ≤ _
    have := hr _ (sel_in ha).1
    omega
  · have e := sumK_cast (f := fun a => (t (sel s n a)).toNat) (g := fun a => t (sel s n a)) (cnt s n) hu
    rw [selT zt] at e
    omega
  · obtain ⟨k1, k2, k3⟩ := sel_in hk
    have e := sumK_cast (f := fun a => (A (sel s n a) (sel s n k)).toNat * (t (sel s n a)).toNat) (g := fun a => (fun j => t j * A j (sel s n k)) (sel s n a)) (cnt s n) fun a ha => by
      have hA := hO.2.2.1 (sel s n a) (sel s n k) (by have := (sel_in ha).1; omega) (by omega)
      show (((A (sel s n a) (sel s n k)).toNat * (t (sel s n a)).toNat : Nat) : Int) = t (sel s n a) * A (sel s n a) (sel s n k)
      rw [Int.natCast_mul, hu a ha, show (((A (sel s n a) (sel s n k)).toNat : Nat) : Int) = A (sel s n a) (sel s n k) by omega, Int.mul_comm]
    rw [selT (f := fun j => t j * A j (sel s n k)) (fun j hj hb => by show t j * _ = 0; rw [zt j hj hb, Int.zero_mul]), tree_stay hO hla hG ht k1, ← hu k hk, Int.mul_comm, ← Int.natCast_mul] at e
    exact Int.ofNat_inj.mp e
abbrev errF : List Nat := 81 :: 82 :: 83 :: List.range 80
theorem FR.err {l cs ss : List Nat} {M M' : Mem} (h : FR l M M') (hl : ∀ a, a ∈ l → a < 84 ∧ a ≠ 80) : FM cs ss errF M M' := h.fm.mono (by simp) (by simp) fun a ha => by
  have := hl a ha
  simp
  omega
theorem FM.err {l cs ss cs' ss' : List Nat} {M M' : Mem} (h : FM cs ss l M M') (h1 : ∀ a, a ∈ cs → a ∈ cs') (h2 : ∀ a, a ∈ ss → a ∈ ss') (hl : ∀ a, a ∈ l → a < 84 ∧ a ≠ 80) : FM cs' ss' errF M M' := h.mono h1 h2 fun a ha => by
  have := hl a ha
  simp
  omega
theorem sub_sign0 {p : Rat} : (p - p).num.sign = 0 := by
  rw [Rat.sub_self]; rfl
theorem mk_self {U : Nat} (h : 0 < U) : mkRat (U : Int) U = 1 := by
  have h2 : (((U : Nat) : Int) : Rat) ≠ 0 := int_ne (by omega)
  rw [mkRat_ratio]
  generalize (((U : Nat) : Int) : Rat) = u at *
  grind
theorem p5 : (10000 : Nat) ^ 5 = 100000000000000000000 ∧ (10000 : Nat) ^ 1 = 10000 := by decide