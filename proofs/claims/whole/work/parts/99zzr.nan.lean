/-! Comparing what two sides made: alike quotients pass the law's test. -/
theorem nan64 {x : UInt64} (h : isNaN64 x = true) : Jvm.FP.Core.decode Jvm.FP.Core.b64 x.toNat = .nan := by
  have h1 := isNaN64_iff.mp h
  have h2 : x.toNat &&& 0x7fffffffffffffff = x.toNat % 2 ^ 63 := Nat.and_two_pow_sub_one_eq_mod x.toNat 63
  rw [h2] at h1
  have h3 : x.toNat < 2 ^ 64 := x.toNat_lt
  generalize x.toNat = n at h1 h3
  have hE : Jvm.FP.Core.fieldE Jvm.FP.Core.b64 n = Jvm.FP.Core.b64.exps - 1 := by
    show n / 4503599627370496 % 2048 = 2047
    omega
  have hT : ¬ Jvm.FP.Core.fieldT Jvm.FP.Core.b64 n = 0 := by
    show ¬ n % 4503599627370496 = 0
    omega
  unfold Jvm.FP.Core.decode
  rw [if_pos hE, if_neg hT]
theorem nan32 {x : UInt32} (h : isNaN32 x = true) : Jvm.FP.Core.decode Jvm.FP.Core.b32 x.toNat = .nan := by
  have h1 := isNaN32_iff.mp h
  have h2 : x.toNat &&& 0x7fffffff = x.toNat % 2 ^ 31 := Nat.and_two_pow_sub_one_eq_mod x.toNat 31
  rw [h2] at h1
  have h3 : x.toNat < 2 ^ 32 := x.toNat_lt
  generalize x.toNat = n at h1 h3
  have hE : Jvm.FP.Core.fieldE Jvm.FP.Core.b32 n = Jvm.FP.Core.b32.exps - 1 := by
    show n / 8388608 % 256 = 255
    omega
  have hT : ¬ Jvm.FP.Core.fieldT Jvm.FP.Core.b32 n = 0 := by
    show ¬ n % 8388608 = 0
    omega
  unfold Jvm.FP.Core.decode
  rw [if_pos hE, if_neg hT]
abbrev dNan (x : UInt64) : Prop := Jvm.FP.Core.decode Jvm.FP.Core.b64 x.toNat = .nan
theorem nan_f2d {x : UInt32} (h : isNaN32 x = true) : dNan (FP.f2d x) := by
  have h1 : FP.fIsNaN x = true := by
    show decide (Jvm.FP.Core.decode Jvm.FP.Core.b32 x.toNat = .nan) = true
    exact decide_eq_true (nan32 h)
  have h2 : FP.dIsNaN (FP.f2d x) = true := (FP.f2d_nan x).trans h1
  have h3 : decide (Jvm.FP.Core.decode Jvm.FP.Core.b64 (FP.f2d x).toNat = .nan) = true := h2
  exact of_decide_eq_true h3
theorem dcmp_nan {x y : UInt64} (h : dNan x) : Op.cmpValue (FP.dcmp x y) CmpOp.l ≠ 0 := by
  have e : FP.dcmp x y = none := by
    show Jvm.FP.Core.order (Jvm.FP.Core.decode Jvm.FP.Core.b64 x.toNat) (Jvm.FP.Core.decode Jvm.FP.Core.b64 y.toNat) = none
    rw [show Jvm.FP.Core.decode Jvm.FP.Core.b64 x.toNat = .nan from h]
    rfl
  rw [e]
  decide
/-- two that are the same, or both no numbers -/
def dSame (x y : UInt64) : Prop := x = y ∨ (dNan x ∧ dNan y)
theorem dSame.go {x y : UInt64} (h : dSame x y) (hn : Op.cmpValue (FP.dcmp x y) CmpOp.l ≠ 0) : Op.cmpValue (FP.dcmp x x) CmpOp.l ≠ 0 ∧ Op.cmpValue (FP.dcmp y y) CmpOp.l ≠ 0 := by
  rcases h with h | ⟨h1, h2⟩
  · subst h; exact ⟨hn, hn⟩
  · exact ⟨dcmp_nan h1, dcmp_nan h2⟩
theorem alike_cases {x v : UInt64} (h : alike64 x v = true) : x = v ∨ (dNan x ∧ dNan v) := by
  unfold alike64 at h
  rw [Bool.or_eq_true, Bool.and_eq_true] at h
  rcases h with h | ⟨h1, h2⟩
  · exact Or.inl (of_decide_eq_true h)
  · exact Or.inr ⟨nan64 h1, nan64 h2⟩
theorem same_of_alike {x y v : UInt64} (h : alike64 x v = true) (g : alike64 y v = true) : dSame x y := by
  rcases alike_cases h with h | ⟨h1, h2⟩
  · rcases alike_cases g with g | ⟨g1, g2⟩
    · exact Or.inl (h.trans g.symm)
    · subst h; exact Or.inr ⟨g2, g1⟩
  · rcases alike_cases g with g | ⟨g1, g2⟩
    · subst g; exact Or.inr ⟨h1, h2⟩
    · exact Or.inr ⟨h1, g1⟩
theorem same_of_alike32 {x y : UInt64} {r r' v : UInt32} (h : alike32 r v = true) (g : alike32 r' v = true) (hx : alike64 x (FP.f2d r) = true) (hy : alike64 y (FP.f2d r') = true) : dSame x y := by
  have key : r = r' ∨ (isNaN32 r = true ∧ isNaN32 r' = true) := by
    unfold alike32 at h g
    rw [Bool.or_eq_true, Bool.and_eq_true] at h g
    rcases h with h | ⟨h1, h2⟩
    · have h := of_decide_eq_true h
      rcases g with g | ⟨g1, g2⟩
      · exact Or.inl (h.trans (of_decide_eq_true g).symm)
      · subst h; exact Or.inr ⟨g2, g1⟩
    · rcases g with g | ⟨g1, g2⟩
      · have g := of_decide_eq_true g
        subst g; exact Or.inr ⟨h1, h2⟩
      · exact Or.inr ⟨h1, g1⟩
  have nn : ∀ (z : UInt64) (q : UInt32), isNaN32 q = true → alike64 z (FP.f2d q) = true → dNan z := fun z q hq hz => by
    rcases alike_cases hz with e | ⟨e, _⟩
    · rw [e]; exact nan_f2d hq
    · exact e
  rcases key with e | ⟨e1, e2⟩
  · subst e; exact same_of_alike hx hy
  · exact Or.inr ⟨nn _ _ e1 hx, nn _ _ e2 hy⟩
/-- how many of the first are 0 -/
def cntZ (f : Nat → Int) : Nat → Int
  | 0 => 0
  | k + 1 => cntZ f k + if f k = 0 then 1 else 0
theorem cntZ_congr {f g : Nat → Int} : ∀ n, (∀ k, k < n → f k = g k) → cntZ f n = cntZ g n
  | 0, _ => rfl
  | n + 1, h => by
    show cntZ f n + _ = cntZ g n + _
    rw [cntZ_congr n (fun k hk => h k (by omega)), h n (by omega)]
theorem cntZ_r (f : Nat → Int) : ∀ n, 0 ≤ cntZ f n ∧ cntZ f n ≤ n
  | 0 => ⟨Int.le_refl 0, Int.le_refl 0⟩
  | n + 1 => by
    have := cntZ_r f n
    show 0 ≤ cntZ f n + (if f n = 0 then 1 else 0) ∧ cntZ f n + (if f n = 0 then 1 else 0) ≤ ((n + 1 : Nat) : Int)
    split <;> omega
